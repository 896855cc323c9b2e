section
-- ===== PART A: goes FIRST, ahead of the names: the tables' words, and 'selects' of the private methods out of them =====
/-- a private method of a class that the tables say can be made, by its rows of tables_1 -/
def lw_okq (q : MethodName × Nat) : Prop := (q.1.cls ≠ "java/lang/invoke/MethodHandle" ∧ q.1.cls ≠ "java/lang/invoke/VarHandle") ∧ Cond.instantiable q.1.cls q.2 ∈ tables_1 ∧ Cond.privateMethod q.1 ∈ tables_1 ∧ Cond.instanceMethod q.1 ∈ tables_1
theorem lw_p0 : lw_okq (⟨"PressedPlains$Book", "setSpan", "(III)V"⟩, 9) := ⟨⟨by decide +kernel, by decide +kernel⟩, List.mem_of_getElem? (i := 21) (by decide +kernel), List.mem_of_getElem? (i := 92) (by decide +kernel), List.mem_of_getElem? (i := 93) (by decide +kernel)⟩
theorem lw_p1 : lw_okq (⟨"PressedPlains$Book", "splitSpan", "(I)V"⟩, 9) := ⟨⟨by decide +kernel, by decide +kernel⟩, List.mem_of_getElem? (i := 21) (by decide +kernel), List.mem_of_getElem? (i := 96) (by decide +kernel), List.mem_of_getElem? (i := 97) (by decide +kernel)⟩
theorem lw_p2 : lw_okq (⟨"PressedPlains$Book", "hasParts", "(I)Z"⟩, 9) := ⟨⟨by decide +kernel, by decide +kernel⟩, List.mem_of_getElem? (i := 21) (by decide +kernel), List.mem_of_getElem? (i := 100) (by decide +kernel), List.mem_of_getElem? (i := 101) (by decide +kernel)⟩
theorem lw_p3 : lw_okq (⟨"java/lang/Throwable", "fillInStackTrace", "(I)Ljava/lang/Throwable;"⟩, 6) := ⟨⟨by decide +kernel, by decide +kernel⟩, List.mem_of_getElem? (i := 164) (by decide +kernel), List.mem_of_getElem? (i := 162) (by decide +kernel), List.mem_of_getElem? (i := 163) (by decide +kernel)⟩
theorem lw_p4 : lw_okq (⟨"PressedPlains$Book", "lags", "(I)Z"⟩, 9) := ⟨⟨by decide +kernel, by decide +kernel⟩, List.mem_of_getElem? (i := 21) (by decide +kernel), List.mem_of_getElem? (i := 228) (by decide +kernel), List.mem_of_getElem? (i := 229) (by decide +kernel)⟩
theorem lw_p5 : lw_okq (⟨"PressedPlains", "requireColumn", "(I)V"⟩, 3) := ⟨⟨by decide +kernel, by decide +kernel⟩, List.mem_of_getElem? (i := 13) (by decide +kernel), List.mem_of_getElem? (i := 243) (by decide +kernel), List.mem_of_getElem? (i := 244) (by decide +kernel)⟩
theorem lw_p6 : lw_okq (⟨"PressedPlains$Book", "isApart", "(III)Z"⟩, 9) := ⟨⟨by decide +kernel, by decide +kernel⟩, List.mem_of_getElem? (i := 21) (by decide +kernel), List.mem_of_getElem? (i := 267) (by decide +kernel), List.mem_of_getElem? (i := 268) (by decide +kernel)⟩
theorem lw_p7 : lw_okq (⟨"PressedPlains$Book", "beginCall", "()V"⟩, 9) := ⟨⟨by decide +kernel, by decide +kernel⟩, List.mem_of_getElem? (i := 21) (by decide +kernel), List.mem_of_getElem? (i := 306) (by decide +kernel), List.mem_of_getElem? (i := 307) (by decide +kernel)⟩
theorem lw_p8 : lw_okq (⟨"PressedPlains$Book", "raiseFrom", "(III)V"⟩, 9) := ⟨⟨by decide +kernel, by decide +kernel⟩, List.mem_of_getElem? (i := 21) (by decide +kernel), List.mem_of_getElem? (i := 310) (by decide +kernel), List.mem_of_getElem? (i := 311) (by decide +kernel)⟩
theorem lw_p9 : lw_okq (⟨"PressedPlains$Book", "countVisit", "()V"⟩, 9) := ⟨⟨by decide +kernel, by decide +kernel⟩, List.mem_of_getElem? (i := 21) (by decide +kernel), List.mem_of_getElem? (i := 314) (by decide +kernel), List.mem_of_getElem? (i := 315) (by decide +kernel)⟩
theorem lw_p10 : lw_okq (⟨"PressedPlains$Book", "catchUpBelow", "(I)V"⟩, 9) := ⟨⟨by decide +kernel, by decide +kernel⟩, List.mem_of_getElem? (i := 21) (by decide +kernel), List.mem_of_getElem? (i := 318) (by decide +kernel), List.mem_of_getElem? (i := 319) (by decide +kernel)⟩
theorem lw_p11 : lw_okq (⟨"PressedPlains$Book", "catchUp", "(I)V"⟩, 9) := ⟨⟨by decide +kernel, by decide +kernel⟩, List.mem_of_getElem? (i := 21) (by decide +kernel), List.mem_of_getElem? (i := 322) (by decide +kernel), List.mem_of_getElem? (i := 323) (by decide +kernel)⟩
theorem lw_p12 : lw_okq (⟨"PressedPlains$Book", "pressDown", "(II)V"⟩, 9) := ⟨⟨by decide +kernel, by decide +kernel⟩, List.mem_of_getElem? (i := 21) (by decide +kernel), List.mem_of_getElem? (i := 326) (by decide +kernel), List.mem_of_getElem? (i := 327) (by decide +kernel)⟩
theorem lw_p13 : lw_okq (⟨"PressedPlains$Book", "tellAnew", "(I)V"⟩, 9) := ⟨⟨by decide +kernel, by decide +kernel⟩, List.mem_of_getElem? (i := 21) (by decide +kernel), List.mem_of_getElem? (i := 330) (by decide +kernel), List.mem_of_getElem? (i := 331) (by decide +kernel)⟩
theorem lw_p14 : lw_okq (⟨"PressedPlains$Book", "manyAt", "(II)I"⟩, 9) := ⟨⟨by decide +kernel, by decide +kernel⟩, List.mem_of_getElem? (i := 21) (by decide +kernel), List.mem_of_getElem? (i := 337) (by decide +kernel), List.mem_of_getElem? (i := 338) (by decide +kernel)⟩
theorem lw_p15 : lw_okq (⟨"PressedPlains$Book", "greatestLessThan", "(II)I"⟩, 9) := ⟨⟨by decide +kernel, by decide +kernel⟩, List.mem_of_getElem? (i := 21) (by decide +kernel), List.mem_of_getElem? (i := 341) (by decide +kernel), List.mem_of_getElem? (i := 342) (by decide +kernel)⟩
def lw_privs_1 : List (MethodName × Nat) := [(⟨"PressedPlains$Book", "setSpan", "(III)V"⟩, 9), (⟨"PressedPlains$Book", "splitSpan", "(I)V"⟩, 9), (⟨"PressedPlains$Book", "hasParts", "(I)Z"⟩, 9), (⟨"java/lang/Throwable", "fillInStackTrace", "(I)Ljava/lang/Throwable;"⟩, 6), (⟨"PressedPlains$Book", "lags", "(I)Z"⟩, 9), (⟨"PressedPlains", "requireColumn", "(I)V"⟩, 3), (⟨"PressedPlains$Book", "isApart", "(III)Z"⟩, 9), (⟨"PressedPlains$Book", "beginCall", "()V"⟩, 9), (⟨"PressedPlains$Book", "raiseFrom", "(III)V"⟩, 9), (⟨"PressedPlains$Book", "countVisit", "()V"⟩, 9), (⟨"PressedPlains$Book", "catchUpBelow", "(I)V"⟩, 9), (⟨"PressedPlains$Book", "catchUp", "(I)V"⟩, 9), (⟨"PressedPlains$Book", "pressDown", "(II)V"⟩, 9), (⟨"PressedPlains$Book", "tellAnew", "(I)V"⟩, 9), (⟨"PressedPlains$Book", "manyAt", "(II)I"⟩, 9), (⟨"PressedPlains$Book", "greatestLessThan", "(II)I"⟩, 9)]
theorem lw_r1 : ∀ q ∈ lw_privs_1, lw_okq q := List.forall_mem_cons.mpr ⟨lw_p0, List.forall_mem_cons.mpr ⟨lw_p1, List.forall_mem_cons.mpr ⟨lw_p2, List.forall_mem_cons.mpr ⟨lw_p3, List.forall_mem_cons.mpr ⟨lw_p4, List.forall_mem_cons.mpr ⟨lw_p5, List.forall_mem_cons.mpr ⟨lw_p6, List.forall_mem_cons.mpr ⟨lw_p7, List.forall_mem_cons.mpr ⟨lw_p8, List.forall_mem_cons.mpr ⟨lw_p9, List.forall_mem_cons.mpr ⟨lw_p10, List.forall_mem_cons.mpr ⟨lw_p11, List.forall_mem_cons.mpr ⟨lw_p12, List.forall_mem_cons.mpr ⟨lw_p13, List.forall_mem_cons.mpr ⟨lw_p14, List.forall_mem_cons.mpr ⟨lw_p15, fun _ h => absurd h List.not_mem_nil⟩⟩⟩⟩⟩⟩⟩⟩⟩⟩⟩⟩⟩⟩⟩⟩
theorem lw_p16 : lw_okq (⟨"PressedPlains", "requireSpan", "(II)V"⟩, 3) := ⟨⟨by decide +kernel, by decide +kernel⟩, List.mem_of_getElem? (i := 13) (by decide +kernel), List.mem_of_getElem? (i := 352) (by decide +kernel), List.mem_of_getElem? (i := 353) (by decide +kernel)⟩
theorem lw_p17 : lw_okq (⟨"PressedPlains$Book", "sumFrom", "(III)I"⟩, 9) := ⟨⟨by decide +kernel, by decide +kernel⟩, List.mem_of_getElem? (i := 21) (by decide +kernel), List.mem_of_getElem? (i := 370) (by decide +kernel), List.mem_of_getElem? (i := 371) (by decide +kernel)⟩
theorem lw_p18 : lw_okq (⟨"PressedPlains$Book", "isWithin", "(III)Z"⟩, 9) := ⟨⟨by decide +kernel, by decide +kernel⟩, List.mem_of_getElem? (i := 21) (by decide +kernel), List.mem_of_getElem? (i := 374) (by decide +kernel), List.mem_of_getElem? (i := 375) (by decide +kernel)⟩
theorem lw_p19 : lw_okq (⟨"PressedPlains$Book", "greatestFrom", "(III)I"⟩, 9) := ⟨⟨by decide +kernel, by decide +kernel⟩, List.mem_of_getElem? (i := 21) (by decide +kernel), List.mem_of_getElem? (i := 386) (by decide +kernel), List.mem_of_getElem? (i := 387) (by decide +kernel)⟩
theorem lw_p20 : lw_okq (⟨"PressedPlains$Book", "pressFrom", "(IIII)V"⟩, 9) := ⟨⟨by decide +kernel, by decide +kernel⟩, List.mem_of_getElem? (i := 21) (by decide +kernel), List.mem_of_getElem? (i := 431) (by decide +kernel), List.mem_of_getElem? (i := 432) (by decide +kernel)⟩
theorem lw_p21 : lw_okq (⟨"PressedPlains", "requireEntry", "(I)V"⟩, 3) := ⟨⟨by decide +kernel, by decide +kernel⟩, List.mem_of_getElem? (i := 13) (by decide +kernel), List.mem_of_getElem? (i := 452) (by decide +kernel), List.mem_of_getElem? (i := 453) (by decide +kernel)⟩
def lw_privs_2 : List (MethodName × Nat) := [(⟨"PressedPlains", "requireSpan", "(II)V"⟩, 3), (⟨"PressedPlains$Book", "sumFrom", "(III)I"⟩, 9), (⟨"PressedPlains$Book", "isWithin", "(III)Z"⟩, 9), (⟨"PressedPlains$Book", "greatestFrom", "(III)I"⟩, 9), (⟨"PressedPlains$Book", "pressFrom", "(IIII)V"⟩, 9), (⟨"PressedPlains", "requireEntry", "(I)V"⟩, 3)]
theorem lw_r2 : ∀ q ∈ lw_privs_2, lw_okq q := List.forall_mem_cons.mpr ⟨lw_p16, List.forall_mem_cons.mpr ⟨lw_p17, List.forall_mem_cons.mpr ⟨lw_p18, List.forall_mem_cons.mpr ⟨lw_p19, List.forall_mem_cons.mpr ⟨lw_p20, List.forall_mem_cons.mpr ⟨lw_p21, fun _ h => absurd h List.not_mem_nil⟩⟩⟩⟩⟩⟩
def lw_privs : List (MethodName × Nat) := lw_privs_1 ++ (lw_privs_2)
def lw_tbl : List Cond := k2_sels lw_privs ++ tables_1
theorem lw_privs_ok : ∀ q ∈ lw_privs, lw_okq q := by
  show ∀ q ∈ lw_privs_1 ++ (lw_privs_2), lw_okq q
  exact List.forall_mem_append.mpr ⟨lw_r1, lw_r2⟩
/-- the streams that the claim lets the run draw from -/
abbrev lw_cs : List Choice := [Jvm.Choice.named "NaN.bits"]
theorem lw_bits : nanBits ∈ lw_cs := by first | decide | exact List.mem_cons_self | simp [lw_cs, nanBits]
-- ===== end of PART A; then your names; then what follows =====
end
section
/-! ===== BEGIN words of one list among another's, by their places ===== -/
theorem goodIn_r {big : List Cond} (ws : List Cond) (ps : List Nat) (hp : ws = ps.filterMap (fun i => big[i]?)) (h : ws.all goodWord = true) : GoodIn big ws := by
  intro w hw
  have h1 := List.all_eq_true.mp h w hw
  rw [hp] at hw
  obtain ⟨i, -, hi⟩ := List.mem_filterMap.mp hw
  have hm : w ∈ big := by first | exact List.mem_of_getElem? hi | exact List.getElem?_mem hi
  exact ⟨hm, good_of_word h1⟩
theorem goodIn_app {big a b : List Cond} (ha : GoodIn big a) (hb : GoodIn big b) : GoodIn big (a ++ b) := fun w h => (List.mem_append.mp h).elim (ha w) (hb w)
theorem goodIn_ca {big a b : List Cond} {c : Cond} (ha : GoodIn big (c :: a)) (hb : GoodIn big b) : GoodIn big (c :: (a ++ b)) := fun w h => (List.mem_cons.mp h).elim (fun e => ha w (List.mem_cons.mpr (Or.inl e))) (fun h => (List.mem_append.mp h).elim (fun h => ha w (List.mem_cons.mpr (Or.inr h))) (hb w))
theorem goodIn_sub {big ws : List Cond} (hm : ∀ w ∈ ws, w ∈ big) (h : ws.all goodWord = true) : GoodIn big ws := fun w hw => ⟨hm w hw, good_of_word (List.all_eq_true.mp h w hw)⟩
/-! ===== END ===== -/
end
section
/-! ===== BEGIN printed: names, fields, word lists, decode rows ===== -/
def RX0 : String := "PressedPlains$Book"
def TX0 : u_T := fun k => match k with
  | 0 => ("PressedPlains$Book", "first", "[I", true)
  | 1 => ("PressedPlains$Book", "last", "[I", true)
  | 2 => ("PressedPlains$Book", "greatest", "[I", true)
  | 3 => ("PressedPlains$Book", "second", "[I", true)
  | 4 => ("PressedPlains$Book", "many", "[I", true)
  | 5 => ("PressedPlains$Book", "sum", "[I", true)
  | 6 => ("PressedPlains$Book", "latestVisits", "I", false)
  | 7 => ("PressedPlains$Book", "totalVisits", "I", false)
  | _ => ("PressedPlains$Book", "calls", "I", false)
def tyX0 : Nat → FieldType := fun k => match k with
  | 0 => .array .int
  | 1 => .array .int
  | 2 => .array .int
  | 3 => .array .int
  | 4 => .array .int
  | 5 => .array .int
  | 6 => .int
  | 7 => .int
  | _ => .int
abbrev wsX00 : List Cond := u_ws RX0 TX0 9
theorem nmX0 : ∀ a, a < 9 → ∀ b, b < 9 → a ≠ b → (TX0 a).2.1 ≠ (TX0 b).2.1 := by decide +kernel
theorem tyX0_ok : ∀ k, k < 9 → parseFieldDescriptor (TX0 k).2.2.1 = some (tyX0 k) := by decide +kernel
abbrev cX0_init : ByteArray := prog_2_method_1_code
def yX0_init : MethodName := ⟨RX0, "<init>", "()V"⟩
abbrev cX0_renew : ByteArray := prog_2_method_2_code
def yX0_renew : MethodName := ⟨RX0, "renew", "(II)V"⟩
abbrev cX0_has : ByteArray := prog_2_method_3_code
def yX0_has : MethodName := ⟨RX0, "has", "(I)Z"⟩
abbrev cX0_press : ByteArray := prog_2_method_4_code
def yX0_press : MethodName := ⟨RX0, "press", "(III)I"⟩
abbrev cX0_raise : ByteArray := prog_2_method_5_code
def yX0_raise : MethodName := ⟨RX0, "raise", "(II)V"⟩
abbrev cX0_askSum : ByteArray := prog_2_method_6_code
def yX0_askSum : MethodName := ⟨RX0, "askSum", "(II)I"⟩
abbrev cX0_askGreatest : ByteArray := prog_2_method_7_code
def yX0_askGreatest : MethodName := ⟨RX0, "askGreatest", "(II)I"⟩
abbrev cX0_leastGreatestOver : ByteArray := prog_2_method_8_code
def yX0_leastGreatestOver : MethodName := ⟨RX0, "leastGreatestOver", "(I)I"⟩
abbrev cX0_countLagging : ByteArray := prog_2_method_9_code
def yX0_countLagging : MethodName := ⟨RX0, "countLagging", "()I"⟩
abbrev cX0_setSpan : ByteArray := prog_2_method_10_code
def yX0_setSpan : MethodName := ⟨RX0, "setSpan", "(III)V"⟩
abbrev cX0_splitSpan : ByteArray := prog_2_method_11_code
def yX0_splitSpan : MethodName := ⟨RX0, "splitSpan", "(I)V"⟩
abbrev cX0_hasParts : ByteArray := prog_2_method_12_code
def yX0_hasParts : MethodName := ⟨RX0, "hasParts", "(I)Z"⟩
abbrev cX0_isApart : ByteArray := prog_2_method_13_code
def yX0_isApart : MethodName := ⟨RX0, "isApart", "(III)Z"⟩
abbrev cX0_isWithin : ByteArray := prog_2_method_14_code
def yX0_isWithin : MethodName := ⟨RX0, "isWithin", "(III)Z"⟩
abbrev cX0_lags : ByteArray := prog_2_method_15_code
def yX0_lags : MethodName := ⟨RX0, "lags", "(I)Z"⟩
abbrev cX0_beginCall : ByteArray := prog_2_method_16_code
def yX0_beginCall : MethodName := ⟨RX0, "beginCall", "()V"⟩
abbrev cX0_countVisit : ByteArray := prog_2_method_17_code
def yX0_countVisit : MethodName := ⟨RX0, "countVisit", "()V"⟩
abbrev cX0_pressFrom : ByteArray := prog_2_method_18_code
def yX0_pressFrom : MethodName := ⟨RX0, "pressFrom", "(IIII)V"⟩
abbrev cX0_raiseFrom : ByteArray := prog_2_method_19_code
def yX0_raiseFrom : MethodName := ⟨RX0, "raiseFrom", "(III)V"⟩
abbrev cX0_sumFrom : ByteArray := prog_2_method_20_code
def yX0_sumFrom : MethodName := ⟨RX0, "sumFrom", "(III)I"⟩
abbrev cX0_greatestFrom : ByteArray := prog_2_method_21_code
def yX0_greatestFrom : MethodName := ⟨RX0, "greatestFrom", "(III)I"⟩
abbrev cX0_pressDown : ByteArray := prog_2_method_22_code
def yX0_pressDown : MethodName := ⟨RX0, "pressDown", "(II)V"⟩
abbrev cX0_catchUpBelow : ByteArray := prog_2_method_23_code
def yX0_catchUpBelow : MethodName := ⟨RX0, "catchUpBelow", "(I)V"⟩
abbrev cX0_catchUp : ByteArray := prog_2_method_24_code
def yX0_catchUp : MethodName := ⟨RX0, "catchUp", "(I)V"⟩
abbrev cX0_tellAnew : ByteArray := prog_2_method_25_code
def yX0_tellAnew : MethodName := ⟨RX0, "tellAnew", "(I)V"⟩
abbrev cX0_manyAt : ByteArray := prog_2_method_26_code
def yX0_manyAt : MethodName := ⟨RX0, "manyAt", "(II)I"⟩
abbrev cX0_greatestLessThan : ByteArray := prog_2_method_27_code
def yX0_greatestLessThan : MethodName := ⟨RX0, "greatestLessThan", "(II)I"⟩
def RX1 : String := "PressedPlains$Ground"
def TX1 : u_T := fun k => match k with
  | 0 => ("PressedPlains$Ground", "heights", "[I", true)
  | 1 => ("PressedPlains$Ground", "ceilings", "[I", true)
  | 2 => ("PressedPlains$Ground", "count", "I", false)
  | _ => ("PressedPlains$Ground", "given", "I", false)
def tyX1 : Nat → FieldType := fun k => match k with
  | 0 => .array .int
  | 1 => .array .int
  | 2 => .int
  | _ => .int
abbrev wsX10 : List Cond := u_ws RX1 TX1 4
theorem nmX1 : ∀ a, a < 4 → ∀ b, b < 4 → a ≠ b → (TX1 a).2.1 ≠ (TX1 b).2.1 := by decide +kernel
theorem tyX1_ok : ∀ k, k < 4 → parseFieldDescriptor (TX1 k).2.2.1 = some (tyX1 k) := by decide +kernel
abbrev cX1_init : ByteArray := prog_3_method_1_code
def yX1_init : MethodName := ⟨RX1, "<init>", "()V"⟩
abbrev cX1_renew : ByteArray := prog_3_method_2_code
def yX1_renew : MethodName := ⟨RX1, "renew", "(II)V"⟩
abbrev cX1_raise : ByteArray := prog_3_method_3_code
def yX1_raise : MethodName := ⟨RX1, "raise", "(II)V"⟩
abbrev cX1_press : ByteArray := prog_3_method_4_code
def yX1_press : MethodName := ⟨RX1, "press", "(III)V"⟩
abbrev cX1_earthAbove : ByteArray := prog_3_method_5_code
def yX1_earthAbove : MethodName := ⟨RX1, "earthAbove", "(III)I"⟩
abbrev cX1_highestCeilingFor : ByteArray := prog_3_method_6_code
def yX1_highestCeilingFor : MethodName := ⟨RX1, "highestCeilingFor", "(III)I"⟩
def RX2 : String := "PressedPlains"
def TX2 : u_T := fun k => match k with
  | 0 => ("PressedPlains", "book", "LPressedPlains$Book;", true)
  | 1 => ("PressedPlains", "ground", "LPressedPlains$Ground;", true)
  | _ => ("PressedPlains", "pressedSoFar", "I", false)
def tyX2 : Nat → FieldType := fun k => match k with
  | 0 => .object "PressedPlains$Book"
  | 1 => .object "PressedPlains$Ground"
  | _ => .int
abbrev wsX20 : List Cond := u_ws RX2 TX2 3
theorem nmX2 : ∀ a, a < 3 → ∀ b, b < 3 → a ≠ b → (TX2 a).2.1 ≠ (TX2 b).2.1 := by decide +kernel
theorem tyX2_ok : ∀ k, k < 3 → parseFieldDescriptor (TX2 k).2.2.1 = some (tyX2 k) := by decide +kernel
abbrev cX2_init : ByteArray := prog_1_method_1_code
def yX2_init : MethodName := ⟨RX2, "<init>", "()V"⟩
abbrev cX2_layOut : ByteArray := prog_1_method_2_code
def yX2_layOut : MethodName := ⟨RX2, "layOut", "(II)I"⟩
abbrev cX2_pile : ByteArray := prog_1_method_3_code
def yX2_pile : MethodName := ⟨RX2, "pile", "(II)I"⟩
abbrev cX2_lower : ByteArray := prog_1_method_4_code
def yX2_lower : MethodName := ⟨RX2, "lower", "(III)I"⟩
abbrev cX2_earth : ByteArray := prog_1_method_5_code
def yX2_earth : MethodName := ⟨RX2, "earth", "(II)I"⟩
abbrev cX2_earthByColumns : ByteArray := prog_1_method_6_code
def yX2_earthByColumns : MethodName := ⟨RX2, "earthByColumns", "(II)I"⟩
abbrev cX2_top : ByteArray := prog_1_method_7_code
def yX2_top : MethodName := ⟨RX2, "top", "(II)I"⟩
abbrev cX2_height : ByteArray := prog_1_method_8_code
def yX2_height : MethodName := ⟨RX2, "height", "(I)I"⟩
abbrev cX2_heightOfColumn : ByteArray := prog_1_method_9_code
def yX2_heightOfColumn : MethodName := ⟨RX2, "heightOfColumn", "(I)I"⟩
abbrev cX2_wouldPress : ByteArray := prog_1_method_10_code
def yX2_wouldPress : MethodName := ⟨RX2, "wouldPress", "(III)I"⟩
abbrev cX2_ceilingFor : ByteArray := prog_1_method_11_code
def yX2_ceilingFor : MethodName := ⟨RX2, "ceilingFor", "(III)I"⟩
abbrev cX2_ceilingOver : ByteArray := prog_1_method_12_code
def yX2_ceilingOver : MethodName := ⟨RX2, "ceilingOver", "(I)I"⟩
abbrev cX2_columns : ByteArray := prog_1_method_13_code
def yX2_columns : MethodName := ⟨RX2, "columns", "()I"⟩
abbrev cX2_spanOf : ByteArray := prog_1_method_14_code
def yX2_spanOf : MethodName := ⟨RX2, "spanOf", "(I)I"⟩
abbrev cX2_greatest : ByteArray := prog_1_method_15_code
def yX2_greatest : MethodName := ⟨RX2, "greatest", "(I)I"⟩
abbrev cX2_second : ByteArray := prog_1_method_16_code
def yX2_second : MethodName := ⟨RX2, "second", "(I)I"⟩
abbrev cX2_many : ByteArray := prog_1_method_17_code
def yX2_many : MethodName := ⟨RX2, "many", "(I)I"⟩
abbrev cX2_noted : ByteArray := prog_1_method_18_code
def yX2_noted : MethodName := ⟨RX2, "noted", "(I)I"⟩
abbrev cX2_lagging : ByteArray := prog_1_method_19_code
def yX2_lagging : MethodName := ⟨RX2, "lagging", "()I"⟩
abbrev cX2_visits : ByteArray := prog_1_method_20_code
def yX2_visits : MethodName := ⟨RX2, "visits", "()I"⟩
abbrev cX2_allVisits : ByteArray := prog_1_method_21_code
def yX2_allVisits : MethodName := ⟨RX2, "allVisits", "()I"⟩
abbrev cX2_pressedAway : ByteArray := prog_1_method_22_code
def yX2_pressedAway : MethodName := ⟨RX2, "pressedAway", "()I"⟩
abbrev cX2_pressedAwayByRest : ByteArray := prog_1_method_23_code
def yX2_pressedAwayByRest : MethodName := ⟨RX2, "pressedAwayByRest", "()I"⟩
abbrev cX2_meanVisits : ByteArray := prog_1_method_24_code
def yX2_meanVisits : MethodName := ⟨RX2, "meanVisits", "()D"⟩
abbrev cX2_requireColumn : ByteArray := prog_1_method_25_code
def yX2_requireColumn : MethodName := ⟨RX2, "requireColumn", "(I)V"⟩
abbrev cX2_requireSpan : ByteArray := prog_1_method_26_code
def yX2_requireSpan : MethodName := ⟨RX2, "requireSpan", "(II)V"⟩
abbrev cX2_requireEntry : ByteArray := prog_1_method_27_code
def yX2_requireEntry : MethodName := ⟨RX2, "requireEntry", "(I)V"⟩
abbrev cX2_requireInRange : ByteArray := prog_1_method_28_code
def yX2_requireInRange : MethodName := ⟨RX2, "requireInRange", "(III)V"⟩
def RX3 : String := "PressedPlainsModel"
def TX3 : u_T := fun k => match k with
  | _ => ("", "", "", false)
def tyX3 : Nat → FieldType := fun k => match k with
  | _ => .int
abbrev wsX30 : List Cond := u_ws RX3 TX3 0
theorem nmX3 : ∀ a, a < 0 → ∀ b, b < 0 → a ≠ b → (TX3 a).2.1 ≠ (TX3 b).2.1 := by decide +kernel
theorem tyX3_ok : ∀ k, k < 0 → parseFieldDescriptor (TX3 k).2.2.1 = some (tyX3 k) := by decide +kernel
def RJx145de : String := "java/io/Serializable"
def TJx145de : u_T := fun k => match k with
  | _ => ("", "", "", false)
def tyJx145de : Nat → FieldType := fun k => match k with
  | _ => .int
abbrev wsJx145de0 : List Cond := u_ws RJx145de TJx145de 0
theorem nmJx145de : ∀ a, a < 0 → ∀ b, b < 0 → a ≠ b → (TJx145de a).2.1 ≠ (TJx145de b).2.1 := by decide +kernel
theorem tyJx145de_ok : ∀ k, k < 0 → parseFieldDescriptor (TJx145de k).2.2.1 = some (tyJx145de k) := by decide +kernel
def RJ9 : String := "java/lang/Math"
def TJ9 : u_T := fun k => match k with
  | _ => ("", "", "", false)
def tyJ9 : Nat → FieldType := fun k => match k with
  | _ => .int
abbrev wsJ90 : List Cond := u_ws RJ9 TJ9 0
theorem nmJ9 : ∀ a, a < 0 → ∀ b, b < 0 → a ≠ b → (TJ9 a).2.1 ≠ (TJ9 b).2.1 := by decide +kernel
theorem tyJ9_ok : ∀ k, k < 0 → parseFieldDescriptor (TJ9 k).2.2.1 = some (tyJ9 k) := by decide +kernel
abbrev cJ9_max_7cf53 : ByteArray := prog_11_method_65_code
def yJ9_max_7cf53 : MethodName := ⟨RJ9, "max", "(II)I"⟩
abbrev cJ9_min_7cf53 : ByteArray := prog_11_method_69_code
def yJ9_min_7cf53 : MethodName := ⟨RJ9, "min", "(II)I"⟩
def RJ0 : String := "java/lang/String"
def TJ0 : u_T := fun k => match k with
  | _ => ("", "", "", false)
def tyJ0 : Nat → FieldType := fun k => match k with
  | _ => .int
abbrev wsJ00 : List Cond := u_ws RJ0 TJ0 0
theorem nmJ0 : ∀ a, a < 0 → ∀ b, b < 0 → a ≠ b → (TJ0 a).2.1 ≠ (TJ0 b).2.1 := by decide +kernel
theorem tyJ0_ok : ∀ k, k < 0 → parseFieldDescriptor (TJ0 k).2.2.1 = some (tyJ0 k) := by decide +kernel
def RL : String := "PressedPlainsLaw"
abbrev cL_cell : ByteArray := method_2_code
def yL_cell : MethodName := ⟨RL, "cell", "([II)I"⟩
abbrev cL_low : ByteArray := method_3_code
def yL_low : MethodName := ⟨RL, "low", "(II)I"⟩
abbrev cL_does : ByteArray := method_4_code
def yL_does : MethodName := ⟨RL, "does", "(LPressedPlains;II)Z"⟩
abbrev cL_isPiled : ByteArray := method_5_code
def yL_isPiled : MethodName := ⟨RL, "isPiled", "(LPressedPlains;III)Z"⟩
abbrev cL_isAsked : ByteArray := method_6_code
def yL_isAsked : MethodName := ⟨RL, "isAsked", "(LPressedPlains;II)Z"⟩
abbrev cL_isLowered : ByteArray := method_7_code
def yL_isLowered : MethodName := ⟨RL, "isLowered", "(LPressedPlains;III)Z"⟩
abbrev cL_isEntrySo : ByteArray := method_8_code
def yL_isEntrySo : MethodName := ⟨RL, "isEntrySo", "(LPressedPlains;I)Z"⟩
abbrev cL_isSo : ByteArray := method_9_code
def yL_isSo : MethodName := ⟨RL, "isSo", "(LPressedPlains;)Z"⟩
abbrev cL_law : ByteArray := code
def yL_law : MethodName := ⟨RL, "law", "([I)Z"⟩
def wsX0_init : List Cond := .code yX0_init cX0_init 1 none :: ([.methodLink RX0 3 objectInit, .instanceMethod objectInit, .code objectInit ⟨#[0xb1]⟩ 1 none, .arrayClass .int, .fieldLink RX0 11 "PressedPlains$Book" "first" "[I", .fieldLink RX0 15 "PressedPlains$Book" "last" "[I", .fieldLink RX0 18 "PressedPlains$Book" "greatest" "[I", .fieldLink RX0 21 "PressedPlains$Book" "second" "[I", .fieldLink RX0 24 "PressedPlains$Book" "many" "[I", .fieldLink RX0 27 "PressedPlains$Book" "sum" "[I"] ++ wsX00)
def wsX0_setSpan : List Cond := .code yX0_setSpan cX0_setSpan 4 none :: ([.fieldLink RX0 11 "PressedPlains$Book" "first" "[I", .fieldLink RX0 15 "PressedPlains$Book" "last" "[I"] ++ wsX00)
def wsX0_hasParts : List Cond := .code yX0_hasParts cX0_hasParts 2 (some .boolean) :: ([.fieldLink RX0 11 "PressedPlains$Book" "first" "[I", .fieldLink RX0 15 "PressedPlains$Book" "last" "[I"] ++ wsX00)
def wsX0_splitSpan : List Cond := .code yX0_splitSpan cX0_splitSpan 3 none :: ([.fieldLink RX0 11 "PressedPlains$Book" "first" "[I", .fieldLink RX0 15 "PressedPlains$Book" "last" "[I", .methodLink RX0 82 yX0_hasParts, .instanceMethod yX0_hasParts, .selects RX0 yX0_hasParts yX0_hasParts, .initialized RX0, .code yX0_hasParts cX0_hasParts 2 (some .boolean), .methodLink RX0 30 yX0_setSpan, .instanceMethod yX0_setSpan, .selects RX0 yX0_setSpan yX0_setSpan, .code yX0_setSpan cX0_setSpan 4 none] ++ wsX00)
def wsX0_renew : List Cond := .code yX0_renew cX0_renew 5 none :: ([.fieldLink RX0 15 "PressedPlains$Book" "last" "[I", .fieldLink RX0 11 "PressedPlains$Book" "first" "[I", .fieldLink RX0 18 "PressedPlains$Book" "greatest" "[I", .fieldLink RX0 21 "PressedPlains$Book" "second" "[I", .fieldLink RX0 24 "PressedPlains$Book" "many" "[I", .fieldLink RX0 27 "PressedPlains$Book" "sum" "[I", .fieldLink RX0 38 "PressedPlains$Book" "latestVisits" "I", .fieldLink RX0 42 "PressedPlains$Book" "totalVisits" "I", .fieldLink RX0 45 "PressedPlains$Book" "calls" "I", .methodLink RX0 30 yX0_setSpan, .instanceMethod yX0_setSpan, .selects RX0 yX0_setSpan yX0_setSpan, .initialized RX0, .code yX0_setSpan cX0_setSpan 4 none, .methodLink RX0 34 yX0_splitSpan, .instanceMethod yX0_splitSpan, .selects RX0 yX0_splitSpan yX0_splitSpan, .code yX0_splitSpan cX0_splitSpan 3 none, .methodLink RX0 82 yX0_hasParts, .instanceMethod yX0_hasParts, .selects RX0 yX0_hasParts yX0_hasParts, .code yX0_hasParts cX0_hasParts 2 (some .boolean)] ++ wsX00)
def wsX0_has : List Cond := .code yX0_has cX0_has 2 (some .boolean) :: ([.fieldLink RX0 15 "PressedPlains$Book" "last" "[I"] ++ wsX00)
def wsX0_beginCall : List Cond := .code yX0_beginCall cX0_beginCall 1 none :: ([.fieldLink RX0 45 "PressedPlains$Book" "calls" "I", .fieldLink RX0 38 "PressedPlains$Book" "latestVisits" "I"] ++ wsX00)
def wsX0_countVisit : List Cond := .code yX0_countVisit cX0_countVisit 1 none :: ([.fieldLink RX0 38 "PressedPlains$Book" "latestVisits" "I", .fieldLink RX0 42 "PressedPlains$Book" "totalVisits" "I"] ++ wsX00)
def wsX0_isApart : List Cond := .code yX0_isApart cX0_isApart 4 (some .boolean) :: ([.fieldLink RX0 15 "PressedPlains$Book" "last" "[I", .fieldLink RX0 11 "PressedPlains$Book" "first" "[I"] ++ wsX00)
def wsX0_isWithin : List Cond := .code yX0_isWithin cX0_isWithin 4 (some .boolean) :: ([.fieldLink RX0 11 "PressedPlains$Book" "first" "[I", .fieldLink RX0 15 "PressedPlains$Book" "last" "[I"] ++ wsX00)
def wsX0_pressDown : List Cond := .code yX0_pressDown cX0_pressDown 3 none :: ([.fieldLink RX0 27 "PressedPlains$Book" "sum" "[I", .fieldLink RX0 18 "PressedPlains$Book" "greatest" "[I", .fieldLink RX0 24 "PressedPlains$Book" "many" "[I"] ++ wsX00)
def wsX0_lags : List Cond := .code yX0_lags cX0_lags 2 (some .boolean) :: ([.fieldLink RX0 18 "PressedPlains$Book" "greatest" "[I"] ++ wsX00)
def wsX0_catchUp : List Cond := .code yX0_catchUp cX0_catchUp 2 none :: ([.fieldLink RX0 18 "PressedPlains$Book" "greatest" "[I", .methodLink RX0 79 yX0_lags, .instanceMethod yX0_lags, .selects RX0 yX0_lags yX0_lags, .initialized RX0, .code yX0_lags cX0_lags 2 (some .boolean), .methodLink RX0 91 yX0_pressDown, .instanceMethod yX0_pressDown, .selects RX0 yX0_pressDown yX0_pressDown, .code yX0_pressDown cX0_pressDown 3 none, .fieldLink RX0 27 "PressedPlains$Book" "sum" "[I", .fieldLink RX0 24 "PressedPlains$Book" "many" "[I"] ++ wsX00)
def wsX0_catchUpBelow : List Cond := .code yX0_catchUpBelow cX0_catchUpBelow 2 none :: ([.methodLink RX0 104 yX0_catchUp, .instanceMethod yX0_catchUp, .selects RX0 yX0_catchUp yX0_catchUp, .initialized RX0, .code yX0_catchUp cX0_catchUp 2 none, .fieldLink RX0 18 "PressedPlains$Book" "greatest" "[I", .methodLink RX0 79 yX0_lags, .instanceMethod yX0_lags, .selects RX0 yX0_lags yX0_lags, .code yX0_lags cX0_lags 2 (some .boolean), .methodLink RX0 91 yX0_pressDown, .instanceMethod yX0_pressDown, .selects RX0 yX0_pressDown yX0_pressDown, .code yX0_pressDown cX0_pressDown 3 none, .fieldLink RX0 27 "PressedPlains$Book" "sum" "[I", .fieldLink RX0 24 "PressedPlains$Book" "many" "[I"] ++ wsX00)
def wsX0_manyAt : List Cond := .code yX0_manyAt cX0_manyAt 3 (some .int) :: ([.fieldLink RX0 18 "PressedPlains$Book" "greatest" "[I", .fieldLink RX0 24 "PressedPlains$Book" "many" "[I"] ++ wsX00)
def wsX0_greatestLessThan : List Cond := .code yX0_greatestLessThan cX0_greatestLessThan 3 (some .int) :: ([.fieldLink RX0 18 "PressedPlains$Book" "greatest" "[I", .fieldLink RX0 21 "PressedPlains$Book" "second" "[I"] ++ wsX00)
def wsX0_tellAnew : List Cond := .code yX0_tellAnew cX0_tellAnew 5 none :: ([.fieldLink RX0 18 "PressedPlains$Book" "greatest" "[I", .methodLink RX0 101 Lib.Math.max.name, .static Lib.Math.max.name, .initialized "java/lang/Math", .code Lib.Math.max.name Lib.Math.max.code 2 (some .int), .fieldLink RX0 24 "PressedPlains$Book" "many" "[I", .fieldLink RX0 21 "PressedPlains$Book" "second" "[I", .fieldLink RX0 27 "PressedPlains$Book" "sum" "[I", .methodLink RX0 107 yX0_manyAt, .instanceMethod yX0_manyAt, .selects RX0 yX0_manyAt yX0_manyAt, .initialized RX0, .code yX0_manyAt cX0_manyAt 3 (some .int), .methodLink RX0 110 yX0_greatestLessThan, .instanceMethod yX0_greatestLessThan, .selects RX0 yX0_greatestLessThan yX0_greatestLessThan, .code yX0_greatestLessThan cX0_greatestLessThan 3 (some .int)] ++ wsX00)
def wsX0_pressFrom_r1 : List Cond := [Cond.fieldLink RX0 18 "PressedPlains$Book" "greatest" "[I", Cond.fieldLink RX0 21 "PressedPlains$Book" "second" "[I", Cond.methodLink RX0 85 yX0_countVisit, Cond.instanceMethod yX0_countVisit, Cond.selects RX0 yX0_countVisit yX0_countVisit, Cond.initialized RX0, Cond.code yX0_countVisit cX0_countVisit 1 none, Cond.fieldLink RX0 38 "PressedPlains$Book" "latestVisits" "I", Cond.fieldLink RX0 42 "PressedPlains$Book" "totalVisits" "I", Cond.methodLink RX0 69 yX0_isApart, Cond.instanceMethod yX0_isApart, Cond.selects RX0 yX0_isApart yX0_isApart, Cond.code yX0_isApart cX0_isApart 4 (some .boolean), Cond.fieldLink RX0 15 "PressedPlains$Book" "last" "[I", Cond.fieldLink RX0 11 "PressedPlains$Book" "first" "[I", Cond.methodLink RX0 88 yX0_isWithin, Cond.instanceMethod yX0_isWithin, Cond.selects RX0 yX0_isWithin yX0_isWithin, Cond.code yX0_isWithin cX0_isWithin 4 (some .boolean), Cond.methodLink RX0 82 yX0_hasParts, Cond.instanceMethod yX0_hasParts, Cond.selects RX0 yX0_hasParts yX0_hasParts, Cond.code yX0_hasParts cX0_hasParts 2 (some .boolean), Cond.methodLink RX0 91 yX0_pressDown]
def wsX0_pressFrom_r2 : List Cond := [Cond.instanceMethod yX0_pressDown, Cond.selects RX0 yX0_pressDown yX0_pressDown, Cond.code yX0_pressDown cX0_pressDown 3 none, Cond.fieldLink RX0 27 "PressedPlains$Book" "sum" "[I", Cond.fieldLink RX0 24 "PressedPlains$Book" "many" "[I", Cond.methodLink RX0 95 yX0_catchUpBelow, Cond.instanceMethod yX0_catchUpBelow, Cond.selects RX0 yX0_catchUpBelow yX0_catchUpBelow, Cond.code yX0_catchUpBelow cX0_catchUpBelow 2 none, Cond.methodLink RX0 104 yX0_catchUp, Cond.instanceMethod yX0_catchUp, Cond.selects RX0 yX0_catchUp yX0_catchUp, Cond.code yX0_catchUp cX0_catchUp 2 none, Cond.methodLink RX0 79 yX0_lags, Cond.instanceMethod yX0_lags, Cond.selects RX0 yX0_lags yX0_lags, Cond.code yX0_lags cX0_lags 2 (some .boolean), Cond.methodLink RX0 51 yX0_pressFrom, Cond.instanceMethod yX0_pressFrom, Cond.selects RX0 yX0_pressFrom yX0_pressFrom, Cond.methodLink RX0 98 yX0_tellAnew, Cond.instanceMethod yX0_tellAnew, Cond.selects RX0 yX0_tellAnew yX0_tellAnew, Cond.code yX0_tellAnew cX0_tellAnew 5 none]
def wsX0_pressFrom_r3 : List Cond := [Cond.methodLink RX0 101 Lib.Math.max.name, Cond.static Lib.Math.max.name, Cond.initialized "java/lang/Math", Cond.code Lib.Math.max.name Lib.Math.max.code 2 (some .int), Cond.methodLink RX0 107 yX0_manyAt, Cond.instanceMethod yX0_manyAt, Cond.selects RX0 yX0_manyAt yX0_manyAt, Cond.code yX0_manyAt cX0_manyAt 3 (some .int), Cond.methodLink RX0 110 yX0_greatestLessThan, Cond.instanceMethod yX0_greatestLessThan, Cond.selects RX0 yX0_greatestLessThan yX0_greatestLessThan, Cond.code yX0_greatestLessThan cX0_greatestLessThan 3 (some .int)]
def wsX0_pressFrom : List Cond := .code yX0_pressFrom cX0_pressFrom 6 none :: ((wsX0_pressFrom_r1 ++ (wsX0_pressFrom_r2 ++ wsX0_pressFrom_r3)) ++ wsX00)
def wsX0_press_r1 : List Cond := [Cond.fieldLink RX0 27 "PressedPlains$Book" "sum" "[I", Cond.methodLink RX0 48 yX0_beginCall, Cond.instanceMethod yX0_beginCall, Cond.selects RX0 yX0_beginCall yX0_beginCall, Cond.initialized RX0, Cond.code yX0_beginCall cX0_beginCall 1 none, Cond.fieldLink RX0 45 "PressedPlains$Book" "calls" "I", Cond.fieldLink RX0 38 "PressedPlains$Book" "latestVisits" "I", Cond.methodLink RX0 51 yX0_pressFrom, Cond.instanceMethod yX0_pressFrom, Cond.selects RX0 yX0_pressFrom yX0_pressFrom, Cond.code yX0_pressFrom cX0_pressFrom 6 none, Cond.fieldLink RX0 18 "PressedPlains$Book" "greatest" "[I", Cond.fieldLink RX0 21 "PressedPlains$Book" "second" "[I", Cond.methodLink RX0 85 yX0_countVisit, Cond.instanceMethod yX0_countVisit, Cond.selects RX0 yX0_countVisit yX0_countVisit, Cond.code yX0_countVisit cX0_countVisit 1 none, Cond.fieldLink RX0 42 "PressedPlains$Book" "totalVisits" "I", Cond.methodLink RX0 69 yX0_isApart, Cond.instanceMethod yX0_isApart, Cond.selects RX0 yX0_isApart yX0_isApart, Cond.code yX0_isApart cX0_isApart 4 (some .boolean), Cond.fieldLink RX0 15 "PressedPlains$Book" "last" "[I"]
def wsX0_press_r2 : List Cond := [Cond.fieldLink RX0 11 "PressedPlains$Book" "first" "[I", Cond.methodLink RX0 88 yX0_isWithin, Cond.instanceMethod yX0_isWithin, Cond.selects RX0 yX0_isWithin yX0_isWithin, Cond.code yX0_isWithin cX0_isWithin 4 (some .boolean), Cond.methodLink RX0 82 yX0_hasParts, Cond.instanceMethod yX0_hasParts, Cond.selects RX0 yX0_hasParts yX0_hasParts, Cond.code yX0_hasParts cX0_hasParts 2 (some .boolean), Cond.methodLink RX0 91 yX0_pressDown, Cond.instanceMethod yX0_pressDown, Cond.selects RX0 yX0_pressDown yX0_pressDown, Cond.code yX0_pressDown cX0_pressDown 3 none, Cond.fieldLink RX0 24 "PressedPlains$Book" "many" "[I", Cond.methodLink RX0 95 yX0_catchUpBelow, Cond.instanceMethod yX0_catchUpBelow, Cond.selects RX0 yX0_catchUpBelow yX0_catchUpBelow, Cond.code yX0_catchUpBelow cX0_catchUpBelow 2 none, Cond.methodLink RX0 104 yX0_catchUp, Cond.instanceMethod yX0_catchUp, Cond.selects RX0 yX0_catchUp yX0_catchUp, Cond.code yX0_catchUp cX0_catchUp 2 none, Cond.methodLink RX0 79 yX0_lags, Cond.instanceMethod yX0_lags]
def wsX0_press_r3 : List Cond := [Cond.selects RX0 yX0_lags yX0_lags, Cond.code yX0_lags cX0_lags 2 (some .boolean), Cond.methodLink RX0 98 yX0_tellAnew, Cond.instanceMethod yX0_tellAnew, Cond.selects RX0 yX0_tellAnew yX0_tellAnew, Cond.code yX0_tellAnew cX0_tellAnew 5 none, Cond.methodLink RX0 101 Lib.Math.max.name, Cond.static Lib.Math.max.name, Cond.initialized "java/lang/Math", Cond.code Lib.Math.max.name Lib.Math.max.code 2 (some .int), Cond.methodLink RX0 107 yX0_manyAt, Cond.instanceMethod yX0_manyAt, Cond.selects RX0 yX0_manyAt yX0_manyAt, Cond.code yX0_manyAt cX0_manyAt 3 (some .int), Cond.methodLink RX0 110 yX0_greatestLessThan, Cond.instanceMethod yX0_greatestLessThan, Cond.selects RX0 yX0_greatestLessThan yX0_greatestLessThan, Cond.code yX0_greatestLessThan cX0_greatestLessThan 3 (some .int)]
def wsX0_press : List Cond := .code yX0_press cX0_press 5 (some .int) :: ((wsX0_press_r1 ++ (wsX0_press_r2 ++ wsX0_press_r3)) ++ wsX00)
def wsX0_raiseFrom_r1 : List Cond := [Cond.fieldLink RX0 18 "PressedPlains$Book" "greatest" "[I", Cond.fieldLink RX0 27 "PressedPlains$Book" "sum" "[I", Cond.fieldLink RX0 15 "PressedPlains$Book" "last" "[I", Cond.methodLink RX0 85 yX0_countVisit, Cond.instanceMethod yX0_countVisit, Cond.selects RX0 yX0_countVisit yX0_countVisit, Cond.initialized RX0, Cond.code yX0_countVisit cX0_countVisit 1 none, Cond.fieldLink RX0 38 "PressedPlains$Book" "latestVisits" "I", Cond.fieldLink RX0 42 "PressedPlains$Book" "totalVisits" "I", Cond.methodLink RX0 82 yX0_hasParts, Cond.instanceMethod yX0_hasParts, Cond.selects RX0 yX0_hasParts yX0_hasParts, Cond.code yX0_hasParts cX0_hasParts 2 (some .boolean), Cond.fieldLink RX0 11 "PressedPlains$Book" "first" "[I", Cond.methodLink RX0 95 yX0_catchUpBelow, Cond.instanceMethod yX0_catchUpBelow, Cond.selects RX0 yX0_catchUpBelow yX0_catchUpBelow, Cond.code yX0_catchUpBelow cX0_catchUpBelow 2 none, Cond.methodLink RX0 104 yX0_catchUp, Cond.instanceMethod yX0_catchUp, Cond.selects RX0 yX0_catchUp yX0_catchUp, Cond.code yX0_catchUp cX0_catchUp 2 none, Cond.methodLink RX0 79 yX0_lags]
def wsX0_raiseFrom_r2 : List Cond := [Cond.instanceMethod yX0_lags, Cond.selects RX0 yX0_lags yX0_lags, Cond.code yX0_lags cX0_lags 2 (some .boolean), Cond.methodLink RX0 91 yX0_pressDown, Cond.instanceMethod yX0_pressDown, Cond.selects RX0 yX0_pressDown yX0_pressDown, Cond.code yX0_pressDown cX0_pressDown 3 none, Cond.fieldLink RX0 24 "PressedPlains$Book" "many" "[I", Cond.methodLink RX0 55 yX0_raiseFrom, Cond.instanceMethod yX0_raiseFrom, Cond.selects RX0 yX0_raiseFrom yX0_raiseFrom, Cond.methodLink RX0 98 yX0_tellAnew, Cond.instanceMethod yX0_tellAnew, Cond.selects RX0 yX0_tellAnew yX0_tellAnew, Cond.code yX0_tellAnew cX0_tellAnew 5 none, Cond.methodLink RX0 101 Lib.Math.max.name, Cond.static Lib.Math.max.name, Cond.initialized "java/lang/Math", Cond.code Lib.Math.max.name Lib.Math.max.code 2 (some .int), Cond.fieldLink RX0 21 "PressedPlains$Book" "second" "[I", Cond.methodLink RX0 107 yX0_manyAt, Cond.instanceMethod yX0_manyAt, Cond.selects RX0 yX0_manyAt yX0_manyAt, Cond.code yX0_manyAt cX0_manyAt 3 (some .int)]
def wsX0_raiseFrom_r3 : List Cond := [Cond.methodLink RX0 110 yX0_greatestLessThan, Cond.instanceMethod yX0_greatestLessThan, Cond.selects RX0 yX0_greatestLessThan yX0_greatestLessThan, Cond.code yX0_greatestLessThan cX0_greatestLessThan 3 (some .int)]
def wsX0_raiseFrom : List Cond := .code yX0_raiseFrom cX0_raiseFrom 5 none :: ((wsX0_raiseFrom_r1 ++ (wsX0_raiseFrom_r2 ++ wsX0_raiseFrom_r3)) ++ wsX00)
def wsX0_raise_r1 : List Cond := [Cond.methodLink RX0 48 yX0_beginCall, Cond.instanceMethod yX0_beginCall, Cond.selects RX0 yX0_beginCall yX0_beginCall, Cond.initialized RX0, Cond.code yX0_beginCall cX0_beginCall 1 none, Cond.fieldLink RX0 45 "PressedPlains$Book" "calls" "I", Cond.fieldLink RX0 38 "PressedPlains$Book" "latestVisits" "I", Cond.methodLink RX0 55 yX0_raiseFrom, Cond.instanceMethod yX0_raiseFrom, Cond.selects RX0 yX0_raiseFrom yX0_raiseFrom, Cond.code yX0_raiseFrom cX0_raiseFrom 5 none, Cond.fieldLink RX0 18 "PressedPlains$Book" "greatest" "[I", Cond.fieldLink RX0 27 "PressedPlains$Book" "sum" "[I", Cond.fieldLink RX0 15 "PressedPlains$Book" "last" "[I", Cond.methodLink RX0 85 yX0_countVisit, Cond.instanceMethod yX0_countVisit, Cond.selects RX0 yX0_countVisit yX0_countVisit, Cond.code yX0_countVisit cX0_countVisit 1 none, Cond.fieldLink RX0 42 "PressedPlains$Book" "totalVisits" "I", Cond.methodLink RX0 82 yX0_hasParts, Cond.instanceMethod yX0_hasParts, Cond.selects RX0 yX0_hasParts yX0_hasParts, Cond.code yX0_hasParts cX0_hasParts 2 (some .boolean), Cond.fieldLink RX0 11 "PressedPlains$Book" "first" "[I"]
def wsX0_raise_r2 : List Cond := [Cond.methodLink RX0 95 yX0_catchUpBelow, Cond.instanceMethod yX0_catchUpBelow, Cond.selects RX0 yX0_catchUpBelow yX0_catchUpBelow, Cond.code yX0_catchUpBelow cX0_catchUpBelow 2 none, Cond.methodLink RX0 104 yX0_catchUp, Cond.instanceMethod yX0_catchUp, Cond.selects RX0 yX0_catchUp yX0_catchUp, Cond.code yX0_catchUp cX0_catchUp 2 none, Cond.methodLink RX0 79 yX0_lags, Cond.instanceMethod yX0_lags, Cond.selects RX0 yX0_lags yX0_lags, Cond.code yX0_lags cX0_lags 2 (some .boolean), Cond.methodLink RX0 91 yX0_pressDown, Cond.instanceMethod yX0_pressDown, Cond.selects RX0 yX0_pressDown yX0_pressDown, Cond.code yX0_pressDown cX0_pressDown 3 none, Cond.fieldLink RX0 24 "PressedPlains$Book" "many" "[I", Cond.methodLink RX0 98 yX0_tellAnew, Cond.instanceMethod yX0_tellAnew, Cond.selects RX0 yX0_tellAnew yX0_tellAnew, Cond.code yX0_tellAnew cX0_tellAnew 5 none, Cond.methodLink RX0 101 Lib.Math.max.name, Cond.static Lib.Math.max.name, Cond.initialized "java/lang/Math"]
def wsX0_raise_r3 : List Cond := [Cond.code Lib.Math.max.name Lib.Math.max.code 2 (some .int), Cond.fieldLink RX0 21 "PressedPlains$Book" "second" "[I", Cond.methodLink RX0 107 yX0_manyAt, Cond.instanceMethod yX0_manyAt, Cond.selects RX0 yX0_manyAt yX0_manyAt, Cond.code yX0_manyAt cX0_manyAt 3 (some .int), Cond.methodLink RX0 110 yX0_greatestLessThan, Cond.instanceMethod yX0_greatestLessThan, Cond.selects RX0 yX0_greatestLessThan yX0_greatestLessThan, Cond.code yX0_greatestLessThan cX0_greatestLessThan 3 (some .int)]
def wsX0_raise : List Cond := .code yX0_raise cX0_raise 3 none :: ((wsX0_raise_r1 ++ (wsX0_raise_r2 ++ wsX0_raise_r3)) ++ wsX00)
def wsX0_sumFrom_r1 : List Cond := [Cond.fieldLink RX0 27 "PressedPlains$Book" "sum" "[I", Cond.methodLink RX0 85 yX0_countVisit, Cond.instanceMethod yX0_countVisit, Cond.selects RX0 yX0_countVisit yX0_countVisit, Cond.initialized RX0, Cond.code yX0_countVisit cX0_countVisit 1 none, Cond.fieldLink RX0 38 "PressedPlains$Book" "latestVisits" "I", Cond.fieldLink RX0 42 "PressedPlains$Book" "totalVisits" "I", Cond.methodLink RX0 69 yX0_isApart, Cond.instanceMethod yX0_isApart, Cond.selects RX0 yX0_isApart yX0_isApart, Cond.code yX0_isApart cX0_isApart 4 (some .boolean), Cond.fieldLink RX0 15 "PressedPlains$Book" "last" "[I", Cond.fieldLink RX0 11 "PressedPlains$Book" "first" "[I", Cond.methodLink RX0 88 yX0_isWithin, Cond.instanceMethod yX0_isWithin, Cond.selects RX0 yX0_isWithin yX0_isWithin, Cond.code yX0_isWithin cX0_isWithin 4 (some .boolean), Cond.methodLink RX0 82 yX0_hasParts, Cond.instanceMethod yX0_hasParts, Cond.selects RX0 yX0_hasParts yX0_hasParts, Cond.code yX0_hasParts cX0_hasParts 2 (some .boolean), Cond.methodLink RX0 95 yX0_catchUpBelow, Cond.instanceMethod yX0_catchUpBelow]
def wsX0_sumFrom_r2 : List Cond := [Cond.selects RX0 yX0_catchUpBelow yX0_catchUpBelow, Cond.code yX0_catchUpBelow cX0_catchUpBelow 2 none, Cond.methodLink RX0 104 yX0_catchUp, Cond.instanceMethod yX0_catchUp, Cond.selects RX0 yX0_catchUp yX0_catchUp, Cond.code yX0_catchUp cX0_catchUp 2 none, Cond.fieldLink RX0 18 "PressedPlains$Book" "greatest" "[I", Cond.methodLink RX0 79 yX0_lags, Cond.instanceMethod yX0_lags, Cond.selects RX0 yX0_lags yX0_lags, Cond.code yX0_lags cX0_lags 2 (some .boolean), Cond.methodLink RX0 91 yX0_pressDown, Cond.instanceMethod yX0_pressDown, Cond.selects RX0 yX0_pressDown yX0_pressDown, Cond.code yX0_pressDown cX0_pressDown 3 none, Cond.fieldLink RX0 24 "PressedPlains$Book" "many" "[I", Cond.methodLink RX0 58 yX0_sumFrom, Cond.instanceMethod yX0_sumFrom, Cond.selects RX0 yX0_sumFrom yX0_sumFrom]
def wsX0_sumFrom : List Cond := .code yX0_sumFrom cX0_sumFrom 4 (some .int) :: ((wsX0_sumFrom_r1 ++ wsX0_sumFrom_r2) ++ wsX00)
def wsX0_askSum_r1 : List Cond := [Cond.methodLink RX0 48 yX0_beginCall, Cond.instanceMethod yX0_beginCall, Cond.selects RX0 yX0_beginCall yX0_beginCall, Cond.initialized RX0, Cond.code yX0_beginCall cX0_beginCall 1 none, Cond.fieldLink RX0 45 "PressedPlains$Book" "calls" "I", Cond.fieldLink RX0 38 "PressedPlains$Book" "latestVisits" "I", Cond.methodLink RX0 58 yX0_sumFrom, Cond.instanceMethod yX0_sumFrom, Cond.selects RX0 yX0_sumFrom yX0_sumFrom, Cond.code yX0_sumFrom cX0_sumFrom 4 (some .int), Cond.fieldLink RX0 27 "PressedPlains$Book" "sum" "[I", Cond.methodLink RX0 85 yX0_countVisit, Cond.instanceMethod yX0_countVisit, Cond.selects RX0 yX0_countVisit yX0_countVisit, Cond.code yX0_countVisit cX0_countVisit 1 none, Cond.fieldLink RX0 42 "PressedPlains$Book" "totalVisits" "I", Cond.methodLink RX0 69 yX0_isApart, Cond.instanceMethod yX0_isApart, Cond.selects RX0 yX0_isApart yX0_isApart, Cond.code yX0_isApart cX0_isApart 4 (some .boolean), Cond.fieldLink RX0 15 "PressedPlains$Book" "last" "[I", Cond.fieldLink RX0 11 "PressedPlains$Book" "first" "[I", Cond.methodLink RX0 88 yX0_isWithin]
def wsX0_askSum_r2 : List Cond := [Cond.instanceMethod yX0_isWithin, Cond.selects RX0 yX0_isWithin yX0_isWithin, Cond.code yX0_isWithin cX0_isWithin 4 (some .boolean), Cond.methodLink RX0 82 yX0_hasParts, Cond.instanceMethod yX0_hasParts, Cond.selects RX0 yX0_hasParts yX0_hasParts, Cond.code yX0_hasParts cX0_hasParts 2 (some .boolean), Cond.methodLink RX0 95 yX0_catchUpBelow, Cond.instanceMethod yX0_catchUpBelow, Cond.selects RX0 yX0_catchUpBelow yX0_catchUpBelow, Cond.code yX0_catchUpBelow cX0_catchUpBelow 2 none, Cond.methodLink RX0 104 yX0_catchUp, Cond.instanceMethod yX0_catchUp, Cond.selects RX0 yX0_catchUp yX0_catchUp, Cond.code yX0_catchUp cX0_catchUp 2 none, Cond.fieldLink RX0 18 "PressedPlains$Book" "greatest" "[I", Cond.methodLink RX0 79 yX0_lags, Cond.instanceMethod yX0_lags, Cond.selects RX0 yX0_lags yX0_lags, Cond.code yX0_lags cX0_lags 2 (some .boolean), Cond.methodLink RX0 91 yX0_pressDown, Cond.instanceMethod yX0_pressDown, Cond.selects RX0 yX0_pressDown yX0_pressDown, Cond.code yX0_pressDown cX0_pressDown 3 none]
def wsX0_askSum_r3 : List Cond := [Cond.fieldLink RX0 24 "PressedPlains$Book" "many" "[I"]
def wsX0_askSum : List Cond := .code yX0_askSum cX0_askSum 3 (some .int) :: ((wsX0_askSum_r1 ++ (wsX0_askSum_r2 ++ wsX0_askSum_r3)) ++ wsX00)
def wsX0_greatestFrom_r1 : List Cond := [Cond.fieldLink RX0 18 "PressedPlains$Book" "greatest" "[I", Cond.methodLink RX0 101 Lib.Math.max.name, Cond.static Lib.Math.max.name, Cond.initialized "java/lang/Math", Cond.code Lib.Math.max.name Lib.Math.max.code 2 (some .int), Cond.methodLink RX0 85 yX0_countVisit, Cond.instanceMethod yX0_countVisit, Cond.selects RX0 yX0_countVisit yX0_countVisit, Cond.initialized RX0, Cond.code yX0_countVisit cX0_countVisit 1 none, Cond.fieldLink RX0 38 "PressedPlains$Book" "latestVisits" "I", Cond.fieldLink RX0 42 "PressedPlains$Book" "totalVisits" "I", Cond.methodLink RX0 69 yX0_isApart, Cond.instanceMethod yX0_isApart, Cond.selects RX0 yX0_isApart yX0_isApart, Cond.code yX0_isApart cX0_isApart 4 (some .boolean), Cond.fieldLink RX0 15 "PressedPlains$Book" "last" "[I", Cond.fieldLink RX0 11 "PressedPlains$Book" "first" "[I", Cond.methodLink RX0 88 yX0_isWithin, Cond.instanceMethod yX0_isWithin, Cond.selects RX0 yX0_isWithin yX0_isWithin, Cond.code yX0_isWithin cX0_isWithin 4 (some .boolean), Cond.methodLink RX0 82 yX0_hasParts, Cond.instanceMethod yX0_hasParts]
def wsX0_greatestFrom_r2 : List Cond := [Cond.selects RX0 yX0_hasParts yX0_hasParts, Cond.code yX0_hasParts cX0_hasParts 2 (some .boolean), Cond.methodLink RX0 95 yX0_catchUpBelow, Cond.instanceMethod yX0_catchUpBelow, Cond.selects RX0 yX0_catchUpBelow yX0_catchUpBelow, Cond.code yX0_catchUpBelow cX0_catchUpBelow 2 none, Cond.methodLink RX0 104 yX0_catchUp, Cond.instanceMethod yX0_catchUp, Cond.selects RX0 yX0_catchUp yX0_catchUp, Cond.code yX0_catchUp cX0_catchUp 2 none, Cond.methodLink RX0 79 yX0_lags, Cond.instanceMethod yX0_lags, Cond.selects RX0 yX0_lags yX0_lags, Cond.code yX0_lags cX0_lags 2 (some .boolean), Cond.methodLink RX0 91 yX0_pressDown, Cond.instanceMethod yX0_pressDown, Cond.selects RX0 yX0_pressDown yX0_pressDown, Cond.code yX0_pressDown cX0_pressDown 3 none, Cond.fieldLink RX0 27 "PressedPlains$Book" "sum" "[I", Cond.fieldLink RX0 24 "PressedPlains$Book" "many" "[I", Cond.methodLink RX0 62 yX0_greatestFrom, Cond.instanceMethod yX0_greatestFrom, Cond.selects RX0 yX0_greatestFrom yX0_greatestFrom]
def wsX0_greatestFrom : List Cond := .code yX0_greatestFrom cX0_greatestFrom 4 (some .int) :: ((wsX0_greatestFrom_r1 ++ wsX0_greatestFrom_r2) ++ wsX00)
def wsX0_askGreatest_r1 : List Cond := [Cond.methodLink RX0 48 yX0_beginCall, Cond.instanceMethod yX0_beginCall, Cond.selects RX0 yX0_beginCall yX0_beginCall, Cond.initialized RX0, Cond.code yX0_beginCall cX0_beginCall 1 none, Cond.fieldLink RX0 45 "PressedPlains$Book" "calls" "I", Cond.fieldLink RX0 38 "PressedPlains$Book" "latestVisits" "I", Cond.methodLink RX0 62 yX0_greatestFrom, Cond.instanceMethod yX0_greatestFrom, Cond.selects RX0 yX0_greatestFrom yX0_greatestFrom, Cond.code yX0_greatestFrom cX0_greatestFrom 4 (some .int), Cond.fieldLink RX0 18 "PressedPlains$Book" "greatest" "[I", Cond.methodLink RX0 101 Lib.Math.max.name, Cond.static Lib.Math.max.name, Cond.initialized "java/lang/Math", Cond.code Lib.Math.max.name Lib.Math.max.code 2 (some .int), Cond.methodLink RX0 85 yX0_countVisit, Cond.instanceMethod yX0_countVisit, Cond.selects RX0 yX0_countVisit yX0_countVisit, Cond.code yX0_countVisit cX0_countVisit 1 none, Cond.fieldLink RX0 42 "PressedPlains$Book" "totalVisits" "I", Cond.methodLink RX0 69 yX0_isApart, Cond.instanceMethod yX0_isApart, Cond.selects RX0 yX0_isApart yX0_isApart]
def wsX0_askGreatest_r2 : List Cond := [Cond.code yX0_isApart cX0_isApart 4 (some .boolean), Cond.fieldLink RX0 15 "PressedPlains$Book" "last" "[I", Cond.fieldLink RX0 11 "PressedPlains$Book" "first" "[I", Cond.methodLink RX0 88 yX0_isWithin, Cond.instanceMethod yX0_isWithin, Cond.selects RX0 yX0_isWithin yX0_isWithin, Cond.code yX0_isWithin cX0_isWithin 4 (some .boolean), Cond.methodLink RX0 82 yX0_hasParts, Cond.instanceMethod yX0_hasParts, Cond.selects RX0 yX0_hasParts yX0_hasParts, Cond.code yX0_hasParts cX0_hasParts 2 (some .boolean), Cond.methodLink RX0 95 yX0_catchUpBelow, Cond.instanceMethod yX0_catchUpBelow, Cond.selects RX0 yX0_catchUpBelow yX0_catchUpBelow, Cond.code yX0_catchUpBelow cX0_catchUpBelow 2 none, Cond.methodLink RX0 104 yX0_catchUp, Cond.instanceMethod yX0_catchUp, Cond.selects RX0 yX0_catchUp yX0_catchUp, Cond.code yX0_catchUp cX0_catchUp 2 none, Cond.methodLink RX0 79 yX0_lags, Cond.instanceMethod yX0_lags, Cond.selects RX0 yX0_lags yX0_lags, Cond.code yX0_lags cX0_lags 2 (some .boolean), Cond.methodLink RX0 91 yX0_pressDown]
def wsX0_askGreatest_r3 : List Cond := [Cond.instanceMethod yX0_pressDown, Cond.selects RX0 yX0_pressDown yX0_pressDown, Cond.code yX0_pressDown cX0_pressDown 3 none, Cond.fieldLink RX0 27 "PressedPlains$Book" "sum" "[I", Cond.fieldLink RX0 24 "PressedPlains$Book" "many" "[I"]
def wsX0_askGreatest : List Cond := .code yX0_askGreatest cX0_askGreatest 3 (some .int) :: ((wsX0_askGreatest_r1 ++ (wsX0_askGreatest_r2 ++ wsX0_askGreatest_r3)) ++ wsX00)
def wsX0_leastGreatestOver : List Cond := .code yX0_leastGreatestOver cX0_leastGreatestOver 4 (some .int) :: ([.fieldLink RX0 18 "PressedPlains$Book" "greatest" "[I", .methodLink RX0 73 Lib.Math.min.name, .static Lib.Math.min.name, .initialized "java/lang/Math", .code Lib.Math.min.name Lib.Math.min.code 2 (some .int), .methodLink RX0 65 yX0_has, .instanceMethod yX0_has, .selects RX0 yX0_has yX0_has, .initialized RX0, .code yX0_has cX0_has 2 (some .boolean), .fieldLink RX0 15 "PressedPlains$Book" "last" "[I", .methodLink RX0 69 yX0_isApart, .instanceMethod yX0_isApart, .selects RX0 yX0_isApart yX0_isApart, .code yX0_isApart cX0_isApart 4 (some .boolean), .fieldLink RX0 11 "PressedPlains$Book" "first" "[I"] ++ wsX00)
def wsX0_countLagging : List Cond := .code yX0_countLagging cX0_countLagging 3 (some .int) :: ([.methodLink RX0 65 yX0_has, .instanceMethod yX0_has, .selects RX0 yX0_has yX0_has, .initialized RX0, .code yX0_has cX0_has 2 (some .boolean), .fieldLink RX0 15 "PressedPlains$Book" "last" "[I", .methodLink RX0 79 yX0_lags, .instanceMethod yX0_lags, .selects RX0 yX0_lags yX0_lags, .code yX0_lags cX0_lags 2 (some .boolean), .fieldLink RX0 18 "PressedPlains$Book" "greatest" "[I"] ++ wsX00)
def wsX1_init : List Cond := .code yX1_init cX1_init 1 none :: ([.methodLink RX1 3 objectInit, .instanceMethod objectInit, .code objectInit ⟨#[0xb1]⟩ 1 none, .arrayClass .int, .fieldLink RX1 9 "PressedPlains$Ground" "heights" "[I", .fieldLink RX1 15 "PressedPlains$Ground" "ceilings" "[I"] ++ wsX10)
def wsX1_renew : List Cond := .code yX1_renew cX1_renew 4 none :: ([.fieldLink RX1 18 "PressedPlains$Ground" "count" "I", .fieldLink RX1 22 "PressedPlains$Ground" "given" "I", .fieldLink RX1 9 "PressedPlains$Ground" "heights" "[I", .fieldLink RX1 15 "PressedPlains$Ground" "ceilings" "[I"] ++ wsX10)
def wsX1_raise : List Cond := .code yX1_raise cX1_raise 3 none :: ([.fieldLink RX1 9 "PressedPlains$Ground" "heights" "[I", .fieldLink RX1 15 "PressedPlains$Ground" "ceilings" "[I", .fieldLink RX1 22 "PressedPlains$Ground" "given" "I"] ++ wsX10)
def wsX1_press : List Cond := .code yX1_press cX1_press 5 none :: ([.fieldLink RX1 9 "PressedPlains$Ground" "heights" "[I", .methodLink RX1 25 Lib.Math.min.name, .static Lib.Math.min.name, .initialized "java/lang/Math", .code Lib.Math.min.name Lib.Math.min.code 2 (some .int), .fieldLink RX1 15 "PressedPlains$Ground" "ceilings" "[I"] ++ wsX10)
def wsX1_earthAbove : List Cond := .code yX1_earthAbove cX1_earthAbove 6 (some .int) :: ([.fieldLink RX1 9 "PressedPlains$Ground" "heights" "[I", .methodLink RX1 31 Lib.Math.max.name, .static Lib.Math.max.name, .initialized "java/lang/Math", .code Lib.Math.max.name Lib.Math.max.code 2 (some .int)] ++ wsX10)
def wsX1_highestCeilingFor : List Cond := .code yX1_highestCeilingFor cX1_highestCeilingFor 6 (some .int) :: ([.methodLink RX1 34 yX1_earthAbove, .instanceMethod yX1_earthAbove, .selects RX1 yX1_earthAbove yX1_earthAbove, .initialized RX1, .code yX1_earthAbove cX1_earthAbove 6 (some .int), .fieldLink RX1 9 "PressedPlains$Ground" "heights" "[I", .methodLink RX1 31 Lib.Math.max.name, .static Lib.Math.max.name, .initialized "java/lang/Math", .code Lib.Math.max.name Lib.Math.max.code 2 (some .int)] ++ wsX10)
def wsX2_init_r1 : List Cond := [Cond.methodLink RX2 3 objectInit, Cond.instanceMethod objectInit, Cond.code objectInit ⟨#[0xb1]⟩ 1 none, Cond.classLink RX2 9 RX0, Cond.instantiable RX0 9, Cond.initialized RX0, Cond.fieldLink RX2 12 "PressedPlains" "book" "LPressedPlains$Book;", Cond.classLink RX2 16 RX1, Cond.instantiable RX1 4, Cond.initialized RX1, Cond.fieldLink RX2 19 "PressedPlains" "ground" "LPressedPlains$Ground;", Cond.fieldLink RX2 28 "PressedPlains" "pressedSoFar" "I", Cond.instanceMethod yX0_init, Cond.code yX0_init cX0_init 1 none, Cond.methodLink RX0 3 objectInit, Cond.arrayClass .int, Cond.fieldLink RX0 11 "PressedPlains$Book" "first" "[I", Cond.fieldLink RX0 15 "PressedPlains$Book" "last" "[I", Cond.fieldLink RX0 18 "PressedPlains$Book" "greatest" "[I", Cond.fieldLink RX0 21 "PressedPlains$Book" "second" "[I", Cond.fieldLink RX0 24 "PressedPlains$Book" "many" "[I", Cond.fieldLink RX0 27 "PressedPlains$Book" "sum" "[I", Cond.instanceMethod yX1_init, Cond.code yX1_init cX1_init 1 none]
def wsX2_init_r2 : List Cond := [Cond.methodLink RX1 3 objectInit, Cond.fieldLink RX1 9 "PressedPlains$Ground" "heights" "[I", Cond.fieldLink RX1 15 "PressedPlains$Ground" "ceilings" "[I", Cond.methodLink RX2 23 yX0_renew, Cond.instanceMethod yX0_renew, Cond.selects RX0 yX0_renew yX0_renew, Cond.code yX0_renew cX0_renew 5 none, Cond.fieldLink RX0 38 "PressedPlains$Book" "latestVisits" "I", Cond.fieldLink RX0 42 "PressedPlains$Book" "totalVisits" "I", Cond.fieldLink RX0 45 "PressedPlains$Book" "calls" "I", Cond.methodLink RX0 30 yX0_setSpan, Cond.instanceMethod yX0_setSpan, Cond.selects RX0 yX0_setSpan yX0_setSpan, Cond.code yX0_setSpan cX0_setSpan 4 none, Cond.methodLink RX0 34 yX0_splitSpan, Cond.instanceMethod yX0_splitSpan, Cond.selects RX0 yX0_splitSpan yX0_splitSpan, Cond.code yX0_splitSpan cX0_splitSpan 3 none, Cond.methodLink RX0 82 yX0_hasParts, Cond.instanceMethod yX0_hasParts, Cond.selects RX0 yX0_hasParts yX0_hasParts, Cond.code yX0_hasParts cX0_hasParts 2 (some .boolean), Cond.methodLink RX2 27 yX1_renew, Cond.instanceMethod yX1_renew]
def wsX2_init_r3 : List Cond := [Cond.selects RX1 yX1_renew yX1_renew, Cond.code yX1_renew cX1_renew 4 none, Cond.fieldLink RX1 18 "PressedPlains$Ground" "count" "I", Cond.fieldLink RX1 22 "PressedPlains$Ground" "given" "I"]
def wsX2_init : List Cond := .code yX2_init cX2_init 1 none :: ((wsX2_init_r1 ++ (wsX2_init_r2 ++ wsX2_init_r3)) ++ wsX00 ++ wsX20 ++ wsX10)
def wsX2_requireInRange : List Cond := .code yX2_requireInRange cX2_requireInRange 3 none :: ([.classLink RX2 137 "java/lang/IllegalArgumentException", .initialized "java/lang/IllegalArgumentException"])
def wsX2_layOut_r1 : List Cond := [Cond.fieldLink RX2 12 "PressedPlains" "book" "LPressedPlains$Book;", Cond.fieldLink RX2 19 "PressedPlains" "ground" "LPressedPlains$Ground;", Cond.fieldLink RX2 28 "PressedPlains" "pressedSoFar" "I", Cond.methodLink RX2 32 yX2_requireInRange, Cond.static yX2_requireInRange, Cond.initialized RX2, Cond.code yX2_requireInRange cX2_requireInRange 3 none, Cond.classLink RX2 137 "java/lang/IllegalArgumentException", Cond.initialized "java/lang/IllegalArgumentException", Cond.methodLink RX2 23 yX0_renew, Cond.instanceMethod yX0_renew, Cond.selects RX0 yX0_renew yX0_renew, Cond.initialized RX0, Cond.code yX0_renew cX0_renew 5 none, Cond.fieldLink RX0 15 "PressedPlains$Book" "last" "[I", Cond.fieldLink RX0 11 "PressedPlains$Book" "first" "[I", Cond.fieldLink RX0 18 "PressedPlains$Book" "greatest" "[I", Cond.fieldLink RX0 21 "PressedPlains$Book" "second" "[I", Cond.fieldLink RX0 24 "PressedPlains$Book" "many" "[I", Cond.fieldLink RX0 27 "PressedPlains$Book" "sum" "[I", Cond.fieldLink RX0 38 "PressedPlains$Book" "latestVisits" "I", Cond.fieldLink RX0 42 "PressedPlains$Book" "totalVisits" "I", Cond.fieldLink RX0 45 "PressedPlains$Book" "calls" "I", Cond.methodLink RX0 30 yX0_setSpan]
def wsX2_layOut_r2 : List Cond := [Cond.instanceMethod yX0_setSpan, Cond.selects RX0 yX0_setSpan yX0_setSpan, Cond.code yX0_setSpan cX0_setSpan 4 none, Cond.methodLink RX0 34 yX0_splitSpan, Cond.instanceMethod yX0_splitSpan, Cond.selects RX0 yX0_splitSpan yX0_splitSpan, Cond.code yX0_splitSpan cX0_splitSpan 3 none, Cond.methodLink RX0 82 yX0_hasParts, Cond.instanceMethod yX0_hasParts, Cond.selects RX0 yX0_hasParts yX0_hasParts, Cond.code yX0_hasParts cX0_hasParts 2 (some .boolean), Cond.methodLink RX2 27 yX1_renew, Cond.instanceMethod yX1_renew, Cond.selects RX1 yX1_renew yX1_renew, Cond.initialized RX1, Cond.code yX1_renew cX1_renew 4 none, Cond.fieldLink RX1 18 "PressedPlains$Ground" "count" "I", Cond.fieldLink RX1 22 "PressedPlains$Ground" "given" "I", Cond.fieldLink RX1 9 "PressedPlains$Ground" "heights" "[I", Cond.fieldLink RX1 15 "PressedPlains$Ground" "ceilings" "[I"]
def wsX2_layOut : List Cond := .code yX2_layOut cX2_layOut 3 (some .int) :: ((wsX2_layOut_r1 ++ wsX2_layOut_r2) ++ wsX20 ++ wsX00 ++ wsX10)
def wsX2_requireColumn : List Cond := .code yX2_requireColumn cX2_requireColumn 2 none :: ([.classLink RX2 132 "java/lang/IndexOutOfBoundsException", .initialized "java/lang/IndexOutOfBoundsException", .fieldLink RX2 19 "PressedPlains" "ground" "LPressedPlains$Ground;"] ++ wsX20 ++ wsX10)
def wsX2_pile_r1 : List Cond := [Cond.classLink RX2 44 "java/lang/IllegalStateException", Cond.initialized "java/lang/IllegalStateException", Cond.fieldLink RX2 19 "PressedPlains" "ground" "LPressedPlains$Ground;", Cond.fieldLink RX2 12 "PressedPlains" "book" "LPressedPlains$Book;", Cond.methodLink RX2 36 yX2_requireColumn, Cond.instanceMethod yX2_requireColumn, Cond.selects RX2 yX2_requireColumn yX2_requireColumn, Cond.initialized RX2, Cond.code yX2_requireColumn cX2_requireColumn 2 none, Cond.classLink RX2 132 "java/lang/IndexOutOfBoundsException", Cond.initialized "java/lang/IndexOutOfBoundsException", Cond.methodLink RX2 32 yX2_requireInRange, Cond.static yX2_requireInRange, Cond.code yX2_requireInRange cX2_requireInRange 3 none, Cond.classLink RX2 137 "java/lang/IllegalArgumentException", Cond.initialized "java/lang/IllegalArgumentException", Cond.methodLink RX2 51 yX1_raise, Cond.instanceMethod yX1_raise, Cond.selects RX1 yX1_raise yX1_raise, Cond.initialized RX1, Cond.code yX1_raise cX1_raise 3 none, Cond.fieldLink RX1 9 "PressedPlains$Ground" "heights" "[I", Cond.fieldLink RX1 15 "PressedPlains$Ground" "ceilings" "[I", Cond.fieldLink RX1 22 "PressedPlains$Ground" "given" "I"]
def wsX2_pile_r2 : List Cond := [Cond.methodLink RX2 54 yX0_raise, Cond.instanceMethod yX0_raise, Cond.selects RX0 yX0_raise yX0_raise, Cond.initialized RX0, Cond.code yX0_raise cX0_raise 3 none, Cond.methodLink RX0 48 yX0_beginCall, Cond.instanceMethod yX0_beginCall, Cond.selects RX0 yX0_beginCall yX0_beginCall, Cond.code yX0_beginCall cX0_beginCall 1 none, Cond.fieldLink RX0 45 "PressedPlains$Book" "calls" "I", Cond.fieldLink RX0 38 "PressedPlains$Book" "latestVisits" "I", Cond.methodLink RX0 55 yX0_raiseFrom, Cond.instanceMethod yX0_raiseFrom, Cond.selects RX0 yX0_raiseFrom yX0_raiseFrom, Cond.code yX0_raiseFrom cX0_raiseFrom 5 none, Cond.fieldLink RX0 18 "PressedPlains$Book" "greatest" "[I", Cond.fieldLink RX0 27 "PressedPlains$Book" "sum" "[I", Cond.fieldLink RX0 15 "PressedPlains$Book" "last" "[I", Cond.methodLink RX0 85 yX0_countVisit, Cond.instanceMethod yX0_countVisit, Cond.selects RX0 yX0_countVisit yX0_countVisit, Cond.code yX0_countVisit cX0_countVisit 1 none, Cond.fieldLink RX0 42 "PressedPlains$Book" "totalVisits" "I", Cond.methodLink RX0 82 yX0_hasParts]
def wsX2_pile_r3 : List Cond := [Cond.instanceMethod yX0_hasParts, Cond.selects RX0 yX0_hasParts yX0_hasParts, Cond.code yX0_hasParts cX0_hasParts 2 (some .boolean), Cond.fieldLink RX0 11 "PressedPlains$Book" "first" "[I", Cond.methodLink RX0 95 yX0_catchUpBelow, Cond.instanceMethod yX0_catchUpBelow, Cond.selects RX0 yX0_catchUpBelow yX0_catchUpBelow, Cond.code yX0_catchUpBelow cX0_catchUpBelow 2 none, Cond.methodLink RX0 104 yX0_catchUp, Cond.instanceMethod yX0_catchUp, Cond.selects RX0 yX0_catchUp yX0_catchUp, Cond.code yX0_catchUp cX0_catchUp 2 none, Cond.methodLink RX0 79 yX0_lags, Cond.instanceMethod yX0_lags, Cond.selects RX0 yX0_lags yX0_lags, Cond.code yX0_lags cX0_lags 2 (some .boolean), Cond.methodLink RX0 91 yX0_pressDown, Cond.instanceMethod yX0_pressDown, Cond.selects RX0 yX0_pressDown yX0_pressDown, Cond.code yX0_pressDown cX0_pressDown 3 none, Cond.fieldLink RX0 24 "PressedPlains$Book" "many" "[I", Cond.methodLink RX0 98 yX0_tellAnew, Cond.instanceMethod yX0_tellAnew, Cond.selects RX0 yX0_tellAnew yX0_tellAnew]
def wsX2_pile_r4 : List Cond := [Cond.code yX0_tellAnew cX0_tellAnew 5 none, Cond.methodLink RX0 101 Lib.Math.max.name, Cond.static Lib.Math.max.name, Cond.initialized "java/lang/Math", Cond.code Lib.Math.max.name Lib.Math.max.code 2 (some .int), Cond.fieldLink RX0 21 "PressedPlains$Book" "second" "[I", Cond.methodLink RX0 107 yX0_manyAt, Cond.instanceMethod yX0_manyAt, Cond.selects RX0 yX0_manyAt yX0_manyAt, Cond.code yX0_manyAt cX0_manyAt 3 (some .int), Cond.methodLink RX0 110 yX0_greatestLessThan, Cond.instanceMethod yX0_greatestLessThan, Cond.selects RX0 yX0_greatestLessThan yX0_greatestLessThan, Cond.code yX0_greatestLessThan cX0_greatestLessThan 3 (some .int)]
def wsX2_pile : List Cond := .code yX2_pile cX2_pile 4 (some .int) :: ((wsX2_pile_r1 ++ (wsX2_pile_r2 ++ (wsX2_pile_r3 ++ wsX2_pile_r4))) ++ wsX20 ++ wsX10 ++ wsX00)
def wsX2_requireSpan : List Cond := .code yX2_requireSpan cX2_requireSpan 3 none :: ([.classLink RX2 137 "java/lang/IllegalArgumentException", .initialized "java/lang/IllegalArgumentException", .methodLink RX2 36 yX2_requireColumn, .instanceMethod yX2_requireColumn, .selects RX2 yX2_requireColumn yX2_requireColumn, .initialized RX2, .code yX2_requireColumn cX2_requireColumn 2 none, .classLink RX2 132 "java/lang/IndexOutOfBoundsException", .initialized "java/lang/IndexOutOfBoundsException", .fieldLink RX2 19 "PressedPlains" "ground" "LPressedPlains$Ground;"] ++ wsX20 ++ wsX10)
def wsX2_lower_r1 : List Cond := [Cond.fieldLink RX2 12 "PressedPlains" "book" "LPressedPlains$Book;", Cond.fieldLink RX2 19 "PressedPlains" "ground" "LPressedPlains$Ground;", Cond.fieldLink RX2 28 "PressedPlains" "pressedSoFar" "I", Cond.methodLink RX2 55 yX2_requireSpan, Cond.instanceMethod yX2_requireSpan, Cond.selects RX2 yX2_requireSpan yX2_requireSpan, Cond.initialized RX2, Cond.code yX2_requireSpan cX2_requireSpan 3 none, Cond.classLink RX2 137 "java/lang/IllegalArgumentException", Cond.initialized "java/lang/IllegalArgumentException", Cond.methodLink RX2 36 yX2_requireColumn, Cond.instanceMethod yX2_requireColumn, Cond.selects RX2 yX2_requireColumn yX2_requireColumn, Cond.code yX2_requireColumn cX2_requireColumn 2 none, Cond.classLink RX2 132 "java/lang/IndexOutOfBoundsException", Cond.initialized "java/lang/IndexOutOfBoundsException", Cond.methodLink RX2 32 yX2_requireInRange, Cond.static yX2_requireInRange, Cond.code yX2_requireInRange cX2_requireInRange 3 none, Cond.methodLink RX2 58 yX0_press, Cond.instanceMethod yX0_press, Cond.selects RX0 yX0_press yX0_press, Cond.initialized RX0, Cond.code yX0_press cX0_press 5 (some .int)]
def wsX2_lower_r2 : List Cond := [Cond.fieldLink RX0 27 "PressedPlains$Book" "sum" "[I", Cond.methodLink RX0 48 yX0_beginCall, Cond.instanceMethod yX0_beginCall, Cond.selects RX0 yX0_beginCall yX0_beginCall, Cond.code yX0_beginCall cX0_beginCall 1 none, Cond.fieldLink RX0 45 "PressedPlains$Book" "calls" "I", Cond.fieldLink RX0 38 "PressedPlains$Book" "latestVisits" "I", Cond.methodLink RX0 51 yX0_pressFrom, Cond.instanceMethod yX0_pressFrom, Cond.selects RX0 yX0_pressFrom yX0_pressFrom, Cond.code yX0_pressFrom cX0_pressFrom 6 none, Cond.fieldLink RX0 18 "PressedPlains$Book" "greatest" "[I", Cond.fieldLink RX0 21 "PressedPlains$Book" "second" "[I", Cond.methodLink RX0 85 yX0_countVisit, Cond.instanceMethod yX0_countVisit, Cond.selects RX0 yX0_countVisit yX0_countVisit, Cond.code yX0_countVisit cX0_countVisit 1 none, Cond.fieldLink RX0 42 "PressedPlains$Book" "totalVisits" "I", Cond.methodLink RX0 69 yX0_isApart, Cond.instanceMethod yX0_isApart, Cond.selects RX0 yX0_isApart yX0_isApart, Cond.code yX0_isApart cX0_isApart 4 (some .boolean), Cond.fieldLink RX0 15 "PressedPlains$Book" "last" "[I", Cond.fieldLink RX0 11 "PressedPlains$Book" "first" "[I"]
def wsX2_lower_r3 : List Cond := [Cond.methodLink RX0 88 yX0_isWithin, Cond.instanceMethod yX0_isWithin, Cond.selects RX0 yX0_isWithin yX0_isWithin, Cond.code yX0_isWithin cX0_isWithin 4 (some .boolean), Cond.methodLink RX0 82 yX0_hasParts, Cond.instanceMethod yX0_hasParts, Cond.selects RX0 yX0_hasParts yX0_hasParts, Cond.code yX0_hasParts cX0_hasParts 2 (some .boolean), Cond.methodLink RX0 91 yX0_pressDown, Cond.instanceMethod yX0_pressDown, Cond.selects RX0 yX0_pressDown yX0_pressDown, Cond.code yX0_pressDown cX0_pressDown 3 none, Cond.fieldLink RX0 24 "PressedPlains$Book" "many" "[I", Cond.methodLink RX0 95 yX0_catchUpBelow, Cond.instanceMethod yX0_catchUpBelow, Cond.selects RX0 yX0_catchUpBelow yX0_catchUpBelow, Cond.code yX0_catchUpBelow cX0_catchUpBelow 2 none, Cond.methodLink RX0 104 yX0_catchUp, Cond.instanceMethod yX0_catchUp, Cond.selects RX0 yX0_catchUp yX0_catchUp, Cond.code yX0_catchUp cX0_catchUp 2 none, Cond.methodLink RX0 79 yX0_lags, Cond.instanceMethod yX0_lags, Cond.selects RX0 yX0_lags yX0_lags]
def wsX2_lower_r4 : List Cond := [Cond.code yX0_lags cX0_lags 2 (some .boolean), Cond.methodLink RX0 98 yX0_tellAnew, Cond.instanceMethod yX0_tellAnew, Cond.selects RX0 yX0_tellAnew yX0_tellAnew, Cond.code yX0_tellAnew cX0_tellAnew 5 none, Cond.methodLink RX0 101 Lib.Math.max.name, Cond.static Lib.Math.max.name, Cond.initialized "java/lang/Math", Cond.code Lib.Math.max.name Lib.Math.max.code 2 (some .int), Cond.methodLink RX0 107 yX0_manyAt, Cond.instanceMethod yX0_manyAt, Cond.selects RX0 yX0_manyAt yX0_manyAt, Cond.code yX0_manyAt cX0_manyAt 3 (some .int), Cond.methodLink RX0 110 yX0_greatestLessThan, Cond.instanceMethod yX0_greatestLessThan, Cond.selects RX0 yX0_greatestLessThan yX0_greatestLessThan, Cond.code yX0_greatestLessThan cX0_greatestLessThan 3 (some .int), Cond.methodLink RX2 62 yX1_press, Cond.instanceMethod yX1_press, Cond.selects RX1 yX1_press yX1_press, Cond.initialized RX1, Cond.code yX1_press cX1_press 5 none, Cond.fieldLink RX1 9 "PressedPlains$Ground" "heights" "[I", Cond.methodLink RX1 25 Lib.Math.min.name]
def wsX2_lower_r5 : List Cond := [Cond.static Lib.Math.min.name, Cond.code Lib.Math.min.name Lib.Math.min.code 2 (some .int), Cond.fieldLink RX1 15 "PressedPlains$Ground" "ceilings" "[I"]
def wsX2_lower : List Cond := .code yX2_lower cX2_lower 5 (some .int) :: ((wsX2_lower_r1 ++ (wsX2_lower_r2 ++ (wsX2_lower_r3 ++ (wsX2_lower_r4 ++ wsX2_lower_r5)))) ++ wsX20 ++ wsX10 ++ wsX00)
def wsX2_earth_r1 : List Cond := [Cond.fieldLink RX2 12 "PressedPlains" "book" "LPressedPlains$Book;", Cond.methodLink RX2 55 yX2_requireSpan, Cond.instanceMethod yX2_requireSpan, Cond.selects RX2 yX2_requireSpan yX2_requireSpan, Cond.initialized RX2, Cond.code yX2_requireSpan cX2_requireSpan 3 none, Cond.classLink RX2 137 "java/lang/IllegalArgumentException", Cond.initialized "java/lang/IllegalArgumentException", Cond.methodLink RX2 36 yX2_requireColumn, Cond.instanceMethod yX2_requireColumn, Cond.selects RX2 yX2_requireColumn yX2_requireColumn, Cond.code yX2_requireColumn cX2_requireColumn 2 none, Cond.classLink RX2 132 "java/lang/IndexOutOfBoundsException", Cond.initialized "java/lang/IndexOutOfBoundsException", Cond.fieldLink RX2 19 "PressedPlains" "ground" "LPressedPlains$Ground;", Cond.methodLink RX2 64 yX0_askSum, Cond.instanceMethod yX0_askSum, Cond.selects RX0 yX0_askSum yX0_askSum, Cond.initialized RX0, Cond.code yX0_askSum cX0_askSum 3 (some .int), Cond.methodLink RX0 48 yX0_beginCall, Cond.instanceMethod yX0_beginCall, Cond.selects RX0 yX0_beginCall yX0_beginCall, Cond.code yX0_beginCall cX0_beginCall 1 none]
def wsX2_earth_r2 : List Cond := [Cond.fieldLink RX0 45 "PressedPlains$Book" "calls" "I", Cond.fieldLink RX0 38 "PressedPlains$Book" "latestVisits" "I", Cond.methodLink RX0 58 yX0_sumFrom, Cond.instanceMethod yX0_sumFrom, Cond.selects RX0 yX0_sumFrom yX0_sumFrom, Cond.code yX0_sumFrom cX0_sumFrom 4 (some .int), Cond.fieldLink RX0 27 "PressedPlains$Book" "sum" "[I", Cond.methodLink RX0 85 yX0_countVisit, Cond.instanceMethod yX0_countVisit, Cond.selects RX0 yX0_countVisit yX0_countVisit, Cond.code yX0_countVisit cX0_countVisit 1 none, Cond.fieldLink RX0 42 "PressedPlains$Book" "totalVisits" "I", Cond.methodLink RX0 69 yX0_isApart, Cond.instanceMethod yX0_isApart, Cond.selects RX0 yX0_isApart yX0_isApart, Cond.code yX0_isApart cX0_isApart 4 (some .boolean), Cond.fieldLink RX0 15 "PressedPlains$Book" "last" "[I", Cond.fieldLink RX0 11 "PressedPlains$Book" "first" "[I", Cond.methodLink RX0 88 yX0_isWithin, Cond.instanceMethod yX0_isWithin, Cond.selects RX0 yX0_isWithin yX0_isWithin, Cond.code yX0_isWithin cX0_isWithin 4 (some .boolean), Cond.methodLink RX0 82 yX0_hasParts, Cond.instanceMethod yX0_hasParts]
def wsX2_earth_r3 : List Cond := [Cond.selects RX0 yX0_hasParts yX0_hasParts, Cond.code yX0_hasParts cX0_hasParts 2 (some .boolean), Cond.methodLink RX0 95 yX0_catchUpBelow, Cond.instanceMethod yX0_catchUpBelow, Cond.selects RX0 yX0_catchUpBelow yX0_catchUpBelow, Cond.code yX0_catchUpBelow cX0_catchUpBelow 2 none, Cond.methodLink RX0 104 yX0_catchUp, Cond.instanceMethod yX0_catchUp, Cond.selects RX0 yX0_catchUp yX0_catchUp, Cond.code yX0_catchUp cX0_catchUp 2 none, Cond.fieldLink RX0 18 "PressedPlains$Book" "greatest" "[I", Cond.methodLink RX0 79 yX0_lags, Cond.instanceMethod yX0_lags, Cond.selects RX0 yX0_lags yX0_lags, Cond.code yX0_lags cX0_lags 2 (some .boolean), Cond.methodLink RX0 91 yX0_pressDown, Cond.instanceMethod yX0_pressDown, Cond.selects RX0 yX0_pressDown yX0_pressDown, Cond.code yX0_pressDown cX0_pressDown 3 none, Cond.fieldLink RX0 24 "PressedPlains$Book" "many" "[I"]
def wsX2_earth : List Cond := .code yX2_earth cX2_earth 3 (some .int) :: ((wsX2_earth_r1 ++ (wsX2_earth_r2 ++ wsX2_earth_r3)) ++ wsX20 ++ wsX10 ++ wsX00)
def wsX2_earthByColumns : List Cond := .code yX2_earthByColumns cX2_earthByColumns 3 (some .int) :: ([.fieldLink RX2 19 "PressedPlains" "ground" "LPressedPlains$Ground;", .methodLink RX2 55 yX2_requireSpan, .instanceMethod yX2_requireSpan, .selects RX2 yX2_requireSpan yX2_requireSpan, .initialized RX2, .code yX2_requireSpan cX2_requireSpan 3 none, .classLink RX2 137 "java/lang/IllegalArgumentException", .initialized "java/lang/IllegalArgumentException", .methodLink RX2 36 yX2_requireColumn, .instanceMethod yX2_requireColumn, .selects RX2 yX2_requireColumn yX2_requireColumn, .code yX2_requireColumn cX2_requireColumn 2 none, .classLink RX2 132 "java/lang/IndexOutOfBoundsException", .initialized "java/lang/IndexOutOfBoundsException", .methodLink RX2 68 yX1_earthAbove, .instanceMethod yX1_earthAbove, .selects RX1 yX1_earthAbove yX1_earthAbove, .initialized RX1, .code yX1_earthAbove cX1_earthAbove 6 (some .int), .fieldLink RX1 9 "PressedPlains$Ground" "heights" "[I", .methodLink RX1 31 Lib.Math.max.name, .static Lib.Math.max.name, .initialized "java/lang/Math", .code Lib.Math.max.name Lib.Math.max.code 2 (some .int)] ++ wsX20 ++ wsX10)
def wsX2_top_r1 : List Cond := [Cond.fieldLink RX2 12 "PressedPlains" "book" "LPressedPlains$Book;", Cond.methodLink RX2 55 yX2_requireSpan, Cond.instanceMethod yX2_requireSpan, Cond.selects RX2 yX2_requireSpan yX2_requireSpan, Cond.initialized RX2, Cond.code yX2_requireSpan cX2_requireSpan 3 none, Cond.classLink RX2 137 "java/lang/IllegalArgumentException", Cond.initialized "java/lang/IllegalArgumentException", Cond.methodLink RX2 36 yX2_requireColumn, Cond.instanceMethod yX2_requireColumn, Cond.selects RX2 yX2_requireColumn yX2_requireColumn, Cond.code yX2_requireColumn cX2_requireColumn 2 none, Cond.classLink RX2 132 "java/lang/IndexOutOfBoundsException", Cond.initialized "java/lang/IndexOutOfBoundsException", Cond.fieldLink RX2 19 "PressedPlains" "ground" "LPressedPlains$Ground;", Cond.methodLink RX2 71 yX0_askGreatest, Cond.instanceMethod yX0_askGreatest, Cond.selects RX0 yX0_askGreatest yX0_askGreatest, Cond.initialized RX0, Cond.code yX0_askGreatest cX0_askGreatest 3 (some .int), Cond.methodLink RX0 48 yX0_beginCall, Cond.instanceMethod yX0_beginCall, Cond.selects RX0 yX0_beginCall yX0_beginCall, Cond.code yX0_beginCall cX0_beginCall 1 none]
def wsX2_top_r2 : List Cond := [Cond.fieldLink RX0 45 "PressedPlains$Book" "calls" "I", Cond.fieldLink RX0 38 "PressedPlains$Book" "latestVisits" "I", Cond.methodLink RX0 62 yX0_greatestFrom, Cond.instanceMethod yX0_greatestFrom, Cond.selects RX0 yX0_greatestFrom yX0_greatestFrom, Cond.code yX0_greatestFrom cX0_greatestFrom 4 (some .int), Cond.fieldLink RX0 18 "PressedPlains$Book" "greatest" "[I", Cond.methodLink RX0 101 Lib.Math.max.name, Cond.static Lib.Math.max.name, Cond.initialized "java/lang/Math", Cond.code Lib.Math.max.name Lib.Math.max.code 2 (some .int), Cond.methodLink RX0 85 yX0_countVisit, Cond.instanceMethod yX0_countVisit, Cond.selects RX0 yX0_countVisit yX0_countVisit, Cond.code yX0_countVisit cX0_countVisit 1 none, Cond.fieldLink RX0 42 "PressedPlains$Book" "totalVisits" "I", Cond.methodLink RX0 69 yX0_isApart, Cond.instanceMethod yX0_isApart, Cond.selects RX0 yX0_isApart yX0_isApart, Cond.code yX0_isApart cX0_isApart 4 (some .boolean), Cond.fieldLink RX0 15 "PressedPlains$Book" "last" "[I", Cond.fieldLink RX0 11 "PressedPlains$Book" "first" "[I", Cond.methodLink RX0 88 yX0_isWithin, Cond.instanceMethod yX0_isWithin]
def wsX2_top_r3 : List Cond := [Cond.selects RX0 yX0_isWithin yX0_isWithin, Cond.code yX0_isWithin cX0_isWithin 4 (some .boolean), Cond.methodLink RX0 82 yX0_hasParts, Cond.instanceMethod yX0_hasParts, Cond.selects RX0 yX0_hasParts yX0_hasParts, Cond.code yX0_hasParts cX0_hasParts 2 (some .boolean), Cond.methodLink RX0 95 yX0_catchUpBelow, Cond.instanceMethod yX0_catchUpBelow, Cond.selects RX0 yX0_catchUpBelow yX0_catchUpBelow, Cond.code yX0_catchUpBelow cX0_catchUpBelow 2 none, Cond.methodLink RX0 104 yX0_catchUp, Cond.instanceMethod yX0_catchUp, Cond.selects RX0 yX0_catchUp yX0_catchUp, Cond.code yX0_catchUp cX0_catchUp 2 none, Cond.methodLink RX0 79 yX0_lags, Cond.instanceMethod yX0_lags, Cond.selects RX0 yX0_lags yX0_lags, Cond.code yX0_lags cX0_lags 2 (some .boolean), Cond.methodLink RX0 91 yX0_pressDown, Cond.instanceMethod yX0_pressDown, Cond.selects RX0 yX0_pressDown yX0_pressDown, Cond.code yX0_pressDown cX0_pressDown 3 none, Cond.fieldLink RX0 27 "PressedPlains$Book" "sum" "[I", Cond.fieldLink RX0 24 "PressedPlains$Book" "many" "[I"]
def wsX2_top : List Cond := .code yX2_top cX2_top 3 (some .int) :: ((wsX2_top_r1 ++ (wsX2_top_r2 ++ wsX2_top_r3)) ++ wsX20 ++ wsX10 ++ wsX00)
def wsX2_height_r1 : List Cond := [Cond.fieldLink RX2 12 "PressedPlains" "book" "LPressedPlains$Book;", Cond.methodLink RX2 36 yX2_requireColumn, Cond.instanceMethod yX2_requireColumn, Cond.selects RX2 yX2_requireColumn yX2_requireColumn, Cond.initialized RX2, Cond.code yX2_requireColumn cX2_requireColumn 2 none, Cond.classLink RX2 132 "java/lang/IndexOutOfBoundsException", Cond.initialized "java/lang/IndexOutOfBoundsException", Cond.fieldLink RX2 19 "PressedPlains" "ground" "LPressedPlains$Ground;", Cond.methodLink RX2 74 yX0_leastGreatestOver, Cond.instanceMethod yX0_leastGreatestOver, Cond.selects RX0 yX0_leastGreatestOver yX0_leastGreatestOver, Cond.initialized RX0, Cond.code yX0_leastGreatestOver cX0_leastGreatestOver 4 (some .int), Cond.fieldLink RX0 18 "PressedPlains$Book" "greatest" "[I", Cond.methodLink RX0 73 Lib.Math.min.name, Cond.static Lib.Math.min.name, Cond.initialized "java/lang/Math", Cond.code Lib.Math.min.name Lib.Math.min.code 2 (some .int), Cond.methodLink RX0 65 yX0_has, Cond.instanceMethod yX0_has, Cond.selects RX0 yX0_has yX0_has, Cond.code yX0_has cX0_has 2 (some .boolean), Cond.fieldLink RX0 15 "PressedPlains$Book" "last" "[I"]
def wsX2_height_r2 : List Cond := [Cond.methodLink RX0 69 yX0_isApart, Cond.instanceMethod yX0_isApart, Cond.selects RX0 yX0_isApart yX0_isApart, Cond.code yX0_isApart cX0_isApart 4 (some .boolean), Cond.fieldLink RX0 11 "PressedPlains$Book" "first" "[I"]
def wsX2_height : List Cond := .code yX2_height cX2_height 2 (some .int) :: ((wsX2_height_r1 ++ wsX2_height_r2) ++ wsX20 ++ wsX10 ++ wsX00)
def wsX2_heightOfColumn : List Cond := .code yX2_heightOfColumn cX2_heightOfColumn 2 (some .int) :: ([.fieldLink RX2 19 "PressedPlains" "ground" "LPressedPlains$Ground;", .methodLink RX2 36 yX2_requireColumn, .instanceMethod yX2_requireColumn, .selects RX2 yX2_requireColumn yX2_requireColumn, .initialized RX2, .code yX2_requireColumn cX2_requireColumn 2 none, .classLink RX2 132 "java/lang/IndexOutOfBoundsException", .initialized "java/lang/IndexOutOfBoundsException"] ++ wsX20 ++ wsX10)
def wsX2_wouldPress_r1 : List Cond := [Cond.fieldLink RX2 19 "PressedPlains" "ground" "LPressedPlains$Ground;", Cond.methodLink RX2 55 yX2_requireSpan, Cond.instanceMethod yX2_requireSpan, Cond.selects RX2 yX2_requireSpan yX2_requireSpan, Cond.initialized RX2, Cond.code yX2_requireSpan cX2_requireSpan 3 none, Cond.classLink RX2 137 "java/lang/IllegalArgumentException", Cond.initialized "java/lang/IllegalArgumentException", Cond.methodLink RX2 36 yX2_requireColumn, Cond.instanceMethod yX2_requireColumn, Cond.selects RX2 yX2_requireColumn yX2_requireColumn, Cond.code yX2_requireColumn cX2_requireColumn 2 none, Cond.classLink RX2 132 "java/lang/IndexOutOfBoundsException", Cond.initialized "java/lang/IndexOutOfBoundsException", Cond.methodLink RX2 32 yX2_requireInRange, Cond.static yX2_requireInRange, Cond.code yX2_requireInRange cX2_requireInRange 3 none, Cond.methodLink RX2 68 yX1_earthAbove, Cond.instanceMethod yX1_earthAbove, Cond.selects RX1 yX1_earthAbove yX1_earthAbove, Cond.initialized RX1, Cond.code yX1_earthAbove cX1_earthAbove 6 (some .int), Cond.fieldLink RX1 9 "PressedPlains$Ground" "heights" "[I", Cond.methodLink RX1 31 Lib.Math.max.name]
def wsX2_wouldPress_r2 : List Cond := [Cond.static Lib.Math.max.name, Cond.initialized "java/lang/Math", Cond.code Lib.Math.max.name Lib.Math.max.code 2 (some .int)]
def wsX2_wouldPress : List Cond := .code yX2_wouldPress cX2_wouldPress 4 (some .int) :: ((wsX2_wouldPress_r1 ++ wsX2_wouldPress_r2) ++ wsX20 ++ wsX10)
def wsX2_ceilingFor_r1 : List Cond := [Cond.classLink RX2 82 "java/util/NoSuchElementException", Cond.initialized "java/util/NoSuchElementException", Cond.constant RX2 78 (64000), Cond.fieldLink RX2 19 "PressedPlains" "ground" "LPressedPlains$Ground;", Cond.methodLink RX2 55 yX2_requireSpan, Cond.instanceMethod yX2_requireSpan, Cond.selects RX2 yX2_requireSpan yX2_requireSpan, Cond.initialized RX2, Cond.code yX2_requireSpan cX2_requireSpan 3 none, Cond.classLink RX2 137 "java/lang/IllegalArgumentException", Cond.initialized "java/lang/IllegalArgumentException", Cond.methodLink RX2 36 yX2_requireColumn, Cond.instanceMethod yX2_requireColumn, Cond.selects RX2 yX2_requireColumn yX2_requireColumn, Cond.code yX2_requireColumn cX2_requireColumn 2 none, Cond.classLink RX2 132 "java/lang/IndexOutOfBoundsException", Cond.initialized "java/lang/IndexOutOfBoundsException", Cond.methodLink RX2 32 yX2_requireInRange, Cond.static yX2_requireInRange, Cond.code yX2_requireInRange cX2_requireInRange 3 none, Cond.methodLink RX2 79 yX1_highestCeilingFor, Cond.instanceMethod yX1_highestCeilingFor, Cond.selects RX1 yX1_highestCeilingFor yX1_highestCeilingFor, Cond.initialized RX1]
def wsX2_ceilingFor_r2 : List Cond := [Cond.code yX1_highestCeilingFor cX1_highestCeilingFor 6 (some .int), Cond.methodLink RX1 34 yX1_earthAbove, Cond.instanceMethod yX1_earthAbove, Cond.selects RX1 yX1_earthAbove yX1_earthAbove, Cond.code yX1_earthAbove cX1_earthAbove 6 (some .int), Cond.fieldLink RX1 9 "PressedPlains$Ground" "heights" "[I", Cond.methodLink RX1 31 Lib.Math.max.name, Cond.static Lib.Math.max.name, Cond.initialized "java/lang/Math", Cond.code Lib.Math.max.name Lib.Math.max.code 2 (some .int)]
def wsX2_ceilingFor : List Cond := .code yX2_ceilingFor cX2_ceilingFor 5 (some .int) :: ((wsX2_ceilingFor_r1 ++ wsX2_ceilingFor_r2) ++ wsX20 ++ wsX10)
def wsX2_ceilingOver : List Cond := .code yX2_ceilingOver cX2_ceilingOver 3 (some .int) :: ([.classLink RX2 82 "java/util/NoSuchElementException", .initialized "java/util/NoSuchElementException", .fieldLink RX2 19 "PressedPlains" "ground" "LPressedPlains$Ground;", .methodLink RX2 36 yX2_requireColumn, .instanceMethod yX2_requireColumn, .selects RX2 yX2_requireColumn yX2_requireColumn, .initialized RX2, .code yX2_requireColumn cX2_requireColumn 2 none, .classLink RX2 132 "java/lang/IndexOutOfBoundsException", .initialized "java/lang/IndexOutOfBoundsException"] ++ wsX20 ++ wsX10)
def wsX2_columns : List Cond := .code yX2_columns cX2_columns 1 (some .int) :: ([.fieldLink RX2 19 "PressedPlains" "ground" "LPressedPlains$Ground;"] ++ wsX20 ++ wsX10)
def wsX2_requireEntry : List Cond := .code yX2_requireEntry cX2_requireEntry 2 none :: ([.classLink RX2 132 "java/lang/IndexOutOfBoundsException", .initialized "java/lang/IndexOutOfBoundsException", .fieldLink RX2 12 "PressedPlains" "book" "LPressedPlains$Book;", .methodLink RX2 142 yX0_has, .instanceMethod yX0_has, .selects RX0 yX0_has yX0_has, .initialized RX0, .code yX0_has cX0_has 2 (some .boolean), .fieldLink RX0 15 "PressedPlains$Book" "last" "[I"] ++ wsX20 ++ wsX00)
def wsX2_spanOf : List Cond := .code yX2_spanOf cX2_spanOf 2 (some .int) :: ([.fieldLink RX2 12 "PressedPlains" "book" "LPressedPlains$Book;", .methodLink RX2 95 yX2_requireEntry, .instanceMethod yX2_requireEntry, .selects RX2 yX2_requireEntry yX2_requireEntry, .initialized RX2, .code yX2_requireEntry cX2_requireEntry 2 none, .classLink RX2 132 "java/lang/IndexOutOfBoundsException", .initialized "java/lang/IndexOutOfBoundsException", .methodLink RX2 142 yX0_has, .instanceMethod yX0_has, .selects RX0 yX0_has yX0_has, .initialized RX0, .code yX0_has cX0_has 2 (some .boolean), .fieldLink RX0 15 "PressedPlains$Book" "last" "[I"] ++ wsX20 ++ wsX00)
def wsX2_greatest : List Cond := .code yX2_greatest cX2_greatest 2 (some .int) :: ([.fieldLink RX2 12 "PressedPlains" "book" "LPressedPlains$Book;", .methodLink RX2 95 yX2_requireEntry, .instanceMethod yX2_requireEntry, .selects RX2 yX2_requireEntry yX2_requireEntry, .initialized RX2, .code yX2_requireEntry cX2_requireEntry 2 none, .classLink RX2 132 "java/lang/IndexOutOfBoundsException", .initialized "java/lang/IndexOutOfBoundsException", .methodLink RX2 142 yX0_has, .instanceMethod yX0_has, .selects RX0 yX0_has yX0_has, .initialized RX0, .code yX0_has cX0_has 2 (some .boolean), .fieldLink RX0 15 "PressedPlains$Book" "last" "[I"] ++ wsX20 ++ wsX00)
def wsX2_second : List Cond := .code yX2_second cX2_second 2 (some .int) :: ([.fieldLink RX2 12 "PressedPlains" "book" "LPressedPlains$Book;", .methodLink RX2 95 yX2_requireEntry, .instanceMethod yX2_requireEntry, .selects RX2 yX2_requireEntry yX2_requireEntry, .initialized RX2, .code yX2_requireEntry cX2_requireEntry 2 none, .classLink RX2 132 "java/lang/IndexOutOfBoundsException", .initialized "java/lang/IndexOutOfBoundsException", .methodLink RX2 142 yX0_has, .instanceMethod yX0_has, .selects RX0 yX0_has yX0_has, .initialized RX0, .code yX0_has cX0_has 2 (some .boolean), .fieldLink RX0 15 "PressedPlains$Book" "last" "[I"] ++ wsX20 ++ wsX00)
def wsX2_many : List Cond := .code yX2_many cX2_many 2 (some .int) :: ([.fieldLink RX2 12 "PressedPlains" "book" "LPressedPlains$Book;", .methodLink RX2 95 yX2_requireEntry, .instanceMethod yX2_requireEntry, .selects RX2 yX2_requireEntry yX2_requireEntry, .initialized RX2, .code yX2_requireEntry cX2_requireEntry 2 none, .classLink RX2 132 "java/lang/IndexOutOfBoundsException", .initialized "java/lang/IndexOutOfBoundsException", .methodLink RX2 142 yX0_has, .instanceMethod yX0_has, .selects RX0 yX0_has yX0_has, .initialized RX0, .code yX0_has cX0_has 2 (some .boolean), .fieldLink RX0 15 "PressedPlains$Book" "last" "[I"] ++ wsX20 ++ wsX00)
def wsX2_noted : List Cond := .code yX2_noted cX2_noted 2 (some .int) :: ([.fieldLink RX2 12 "PressedPlains" "book" "LPressedPlains$Book;", .methodLink RX2 95 yX2_requireEntry, .instanceMethod yX2_requireEntry, .selects RX2 yX2_requireEntry yX2_requireEntry, .initialized RX2, .code yX2_requireEntry cX2_requireEntry 2 none, .classLink RX2 132 "java/lang/IndexOutOfBoundsException", .initialized "java/lang/IndexOutOfBoundsException", .methodLink RX2 142 yX0_has, .instanceMethod yX0_has, .selects RX0 yX0_has yX0_has, .initialized RX0, .code yX0_has cX0_has 2 (some .boolean), .fieldLink RX0 15 "PressedPlains$Book" "last" "[I"] ++ wsX20 ++ wsX00)
def wsX2_lagging : List Cond := .code yX2_lagging cX2_lagging 1 (some .int) :: ([.fieldLink RX2 12 "PressedPlains" "book" "LPressedPlains$Book;", .methodLink RX2 116 yX0_countLagging, .instanceMethod yX0_countLagging, .selects RX0 yX0_countLagging yX0_countLagging, .initialized RX0, .code yX0_countLagging cX0_countLagging 3 (some .int), .methodLink RX0 65 yX0_has, .instanceMethod yX0_has, .selects RX0 yX0_has yX0_has, .code yX0_has cX0_has 2 (some .boolean), .fieldLink RX0 15 "PressedPlains$Book" "last" "[I", .methodLink RX0 79 yX0_lags, .instanceMethod yX0_lags, .selects RX0 yX0_lags yX0_lags, .code yX0_lags cX0_lags 2 (some .boolean), .fieldLink RX0 18 "PressedPlains$Book" "greatest" "[I"] ++ wsX20 ++ wsX00)
def wsX2_visits : List Cond := .code yX2_visits cX2_visits 1 (some .int) :: ([.fieldLink RX2 12 "PressedPlains" "book" "LPressedPlains$Book;"] ++ wsX20 ++ wsX00)
def wsX2_allVisits : List Cond := .code yX2_allVisits cX2_allVisits 1 (some .int) :: ([.fieldLink RX2 12 "PressedPlains" "book" "LPressedPlains$Book;"] ++ wsX20 ++ wsX00)
def wsX2_pressedAway : List Cond := .code yX2_pressedAway cX2_pressedAway 1 (some .int) :: ([.fieldLink RX2 28 "PressedPlains" "pressedSoFar" "I"] ++ wsX20)
def wsX2_pressedAwayByRest : List Cond := .code yX2_pressedAwayByRest cX2_pressedAwayByRest 1 (some .int) :: ([.fieldLink RX2 19 "PressedPlains" "ground" "LPressedPlains$Ground;", .methodLink RX2 68 yX1_earthAbove, .instanceMethod yX1_earthAbove, .selects RX1 yX1_earthAbove yX1_earthAbove, .initialized RX1, .code yX1_earthAbove cX1_earthAbove 6 (some .int), .fieldLink RX1 9 "PressedPlains$Ground" "heights" "[I", .methodLink RX1 31 Lib.Math.max.name, .static Lib.Math.max.name, .initialized "java/lang/Math", .code Lib.Math.max.name Lib.Math.max.code 2 (some .int)] ++ wsX20 ++ wsX10)
def wsX2_meanVisits : List Cond := .code yX2_meanVisits cX2_meanVisits 1 (some .double) :: ([.fieldLink RX2 12 "PressedPlains" "book" "LPressedPlains$Book;"] ++ wsX20 ++ wsX00)
def wsJ9_max_7cf53 : List Cond := .code yJ9_max_7cf53 cJ9_max_7cf53 2 (some .int) :: ([])
def wsJ9_min_7cf53 : List Cond := .code yJ9_min_7cf53 cJ9_min_7cf53 2 (some .int) :: ([])
def wsL_cell : List Cond := .code yL_cell cL_cell 2 (some .int) :: ([])
def wsL_low : List Cond := .code yL_low cL_low 2 (some .int) :: ([.constant RL 7 (2147483647)])
def wsL_isPiled_r1 : List Cond := [Cond.methodLink RL 46 yX2_height, Cond.instanceMethod yX2_height, Cond.selects RX2 yX2_height yX2_height, Cond.initialized RX2, Cond.code yX2_height cX2_height 2 (some .int), Cond.fieldLink RX2 12 "PressedPlains" "book" "LPressedPlains$Book;", Cond.methodLink RX2 36 yX2_requireColumn, Cond.instanceMethod yX2_requireColumn, Cond.selects RX2 yX2_requireColumn yX2_requireColumn, Cond.code yX2_requireColumn cX2_requireColumn 2 none, Cond.classLink RX2 132 "java/lang/IndexOutOfBoundsException", Cond.initialized "java/lang/IndexOutOfBoundsException", Cond.fieldLink RX2 19 "PressedPlains" "ground" "LPressedPlains$Ground;", Cond.methodLink RX2 74 yX0_leastGreatestOver, Cond.instanceMethod yX0_leastGreatestOver, Cond.selects RX0 yX0_leastGreatestOver yX0_leastGreatestOver, Cond.initialized RX0, Cond.code yX0_leastGreatestOver cX0_leastGreatestOver 4 (some .int), Cond.fieldLink RX0 18 "PressedPlains$Book" "greatest" "[I", Cond.methodLink RX0 73 Lib.Math.min.name, Cond.static Lib.Math.min.name, Cond.initialized "java/lang/Math", Cond.code Lib.Math.min.name Lib.Math.min.code 2 (some .int), Cond.methodLink RX0 65 yX0_has]
def wsL_isPiled_r2 : List Cond := [Cond.instanceMethod yX0_has, Cond.selects RX0 yX0_has yX0_has, Cond.code yX0_has cX0_has 2 (some .boolean), Cond.fieldLink RX0 15 "PressedPlains$Book" "last" "[I", Cond.methodLink RX0 69 yX0_isApart, Cond.instanceMethod yX0_isApart, Cond.selects RX0 yX0_isApart yX0_isApart, Cond.code yX0_isApart cX0_isApart 4 (some .boolean), Cond.fieldLink RX0 11 "PressedPlains$Book" "first" "[I", Cond.methodLink RL 50 yX2_heightOfColumn, Cond.instanceMethod yX2_heightOfColumn, Cond.selects RX2 yX2_heightOfColumn yX2_heightOfColumn, Cond.code yX2_heightOfColumn cX2_heightOfColumn 2 (some .int), Cond.methodLink RL 26 yX2_allVisits, Cond.instanceMethod yX2_allVisits, Cond.selects RX2 yX2_allVisits yX2_allVisits, Cond.code yX2_allVisits cX2_allVisits 1 (some .int), Cond.methodLink RL 53 yX2_pile, Cond.instanceMethod yX2_pile, Cond.selects RX2 yX2_pile yX2_pile, Cond.code yX2_pile cX2_pile 4 (some .int), Cond.classLink RX2 44 "java/lang/IllegalStateException", Cond.initialized "java/lang/IllegalStateException", Cond.methodLink RX2 32 yX2_requireInRange]
def wsL_isPiled_r3 : List Cond := [Cond.static yX2_requireInRange, Cond.code yX2_requireInRange cX2_requireInRange 3 none, Cond.classLink RX2 137 "java/lang/IllegalArgumentException", Cond.initialized "java/lang/IllegalArgumentException", Cond.methodLink RX2 51 yX1_raise, Cond.instanceMethod yX1_raise, Cond.selects RX1 yX1_raise yX1_raise, Cond.initialized RX1, Cond.code yX1_raise cX1_raise 3 none, Cond.fieldLink RX1 9 "PressedPlains$Ground" "heights" "[I", Cond.fieldLink RX1 15 "PressedPlains$Ground" "ceilings" "[I", Cond.fieldLink RX1 22 "PressedPlains$Ground" "given" "I", Cond.methodLink RX2 54 yX0_raise, Cond.instanceMethod yX0_raise, Cond.selects RX0 yX0_raise yX0_raise, Cond.code yX0_raise cX0_raise 3 none, Cond.methodLink RX0 48 yX0_beginCall, Cond.instanceMethod yX0_beginCall, Cond.selects RX0 yX0_beginCall yX0_beginCall, Cond.code yX0_beginCall cX0_beginCall 1 none, Cond.fieldLink RX0 45 "PressedPlains$Book" "calls" "I", Cond.fieldLink RX0 38 "PressedPlains$Book" "latestVisits" "I", Cond.methodLink RX0 55 yX0_raiseFrom, Cond.instanceMethod yX0_raiseFrom]
def wsL_isPiled_r4 : List Cond := [Cond.selects RX0 yX0_raiseFrom yX0_raiseFrom, Cond.code yX0_raiseFrom cX0_raiseFrom 5 none, Cond.fieldLink RX0 27 "PressedPlains$Book" "sum" "[I", Cond.methodLink RX0 85 yX0_countVisit, Cond.instanceMethod yX0_countVisit, Cond.selects RX0 yX0_countVisit yX0_countVisit, Cond.code yX0_countVisit cX0_countVisit 1 none, Cond.fieldLink RX0 42 "PressedPlains$Book" "totalVisits" "I", Cond.methodLink RX0 82 yX0_hasParts, Cond.instanceMethod yX0_hasParts, Cond.selects RX0 yX0_hasParts yX0_hasParts, Cond.code yX0_hasParts cX0_hasParts 2 (some .boolean), Cond.methodLink RX0 95 yX0_catchUpBelow, Cond.instanceMethod yX0_catchUpBelow, Cond.selects RX0 yX0_catchUpBelow yX0_catchUpBelow, Cond.code yX0_catchUpBelow cX0_catchUpBelow 2 none, Cond.methodLink RX0 104 yX0_catchUp, Cond.instanceMethod yX0_catchUp, Cond.selects RX0 yX0_catchUp yX0_catchUp, Cond.code yX0_catchUp cX0_catchUp 2 none, Cond.methodLink RX0 79 yX0_lags, Cond.instanceMethod yX0_lags, Cond.selects RX0 yX0_lags yX0_lags, Cond.code yX0_lags cX0_lags 2 (some .boolean)]
def wsL_isPiled_r5 : List Cond := [Cond.methodLink RX0 91 yX0_pressDown, Cond.instanceMethod yX0_pressDown, Cond.selects RX0 yX0_pressDown yX0_pressDown, Cond.code yX0_pressDown cX0_pressDown 3 none, Cond.fieldLink RX0 24 "PressedPlains$Book" "many" "[I", Cond.methodLink RX0 98 yX0_tellAnew, Cond.instanceMethod yX0_tellAnew, Cond.selects RX0 yX0_tellAnew yX0_tellAnew, Cond.code yX0_tellAnew cX0_tellAnew 5 none, Cond.methodLink RX0 101 Lib.Math.max.name, Cond.static Lib.Math.max.name, Cond.code Lib.Math.max.name Lib.Math.max.code 2 (some .int), Cond.fieldLink RX0 21 "PressedPlains$Book" "second" "[I", Cond.methodLink RX0 107 yX0_manyAt, Cond.instanceMethod yX0_manyAt, Cond.selects RX0 yX0_manyAt yX0_manyAt, Cond.code yX0_manyAt cX0_manyAt 3 (some .int), Cond.methodLink RX0 110 yX0_greatestLessThan, Cond.instanceMethod yX0_greatestLessThan, Cond.selects RX0 yX0_greatestLessThan yX0_greatestLessThan, Cond.code yX0_greatestLessThan cX0_greatestLessThan 3 (some .int), Cond.methodLink RL 23 yX2_visits, Cond.instanceMethod yX2_visits, Cond.selects RX2 yX2_visits yX2_visits]
def wsL_isPiled_r6 : List Cond := [Cond.code yX2_visits cX2_visits 1 (some .int)]
def wsL_isPiled : List Cond := .code yL_isPiled cL_isPiled 8 (some .boolean) :: ((wsL_isPiled_r1 ++ (wsL_isPiled_r2 ++ (wsL_isPiled_r3 ++ (wsL_isPiled_r4 ++ (wsL_isPiled_r5 ++ wsL_isPiled_r6))))) ++ wsX20 ++ wsX10 ++ wsX00)
def wsL_isAsked_r1 : List Cond := [Cond.methodLink RL 56 yX2_earthByColumns, Cond.instanceMethod yX2_earthByColumns, Cond.selects RX2 yX2_earthByColumns yX2_earthByColumns, Cond.initialized RX2, Cond.code yX2_earthByColumns cX2_earthByColumns 3 (some .int), Cond.fieldLink RX2 19 "PressedPlains" "ground" "LPressedPlains$Ground;", Cond.methodLink RX2 55 yX2_requireSpan, Cond.instanceMethod yX2_requireSpan, Cond.selects RX2 yX2_requireSpan yX2_requireSpan, Cond.code yX2_requireSpan cX2_requireSpan 3 none, Cond.classLink RX2 137 "java/lang/IllegalArgumentException", Cond.initialized "java/lang/IllegalArgumentException", Cond.methodLink RX2 36 yX2_requireColumn, Cond.instanceMethod yX2_requireColumn, Cond.selects RX2 yX2_requireColumn yX2_requireColumn, Cond.code yX2_requireColumn cX2_requireColumn 2 none, Cond.classLink RX2 132 "java/lang/IndexOutOfBoundsException", Cond.initialized "java/lang/IndexOutOfBoundsException", Cond.methodLink RX2 68 yX1_earthAbove, Cond.instanceMethod yX1_earthAbove, Cond.selects RX1 yX1_earthAbove yX1_earthAbove, Cond.initialized RX1, Cond.code yX1_earthAbove cX1_earthAbove 6 (some .int), Cond.fieldLink RX1 9 "PressedPlains$Ground" "heights" "[I"]
def wsL_isAsked_r2 : List Cond := [Cond.methodLink RX1 31 Lib.Math.max.name, Cond.static Lib.Math.max.name, Cond.initialized "java/lang/Math", Cond.code Lib.Math.max.name Lib.Math.max.code 2 (some .int), Cond.methodLink RL 50 yX2_heightOfColumn, Cond.instanceMethod yX2_heightOfColumn, Cond.selects RX2 yX2_heightOfColumn yX2_heightOfColumn, Cond.code yX2_heightOfColumn cX2_heightOfColumn 2 (some .int), Cond.methodLink RL 59 yX2_earth, Cond.instanceMethod yX2_earth, Cond.selects RX2 yX2_earth yX2_earth, Cond.code yX2_earth cX2_earth 3 (some .int), Cond.fieldLink RX2 12 "PressedPlains" "book" "LPressedPlains$Book;", Cond.methodLink RX2 64 yX0_askSum, Cond.instanceMethod yX0_askSum, Cond.selects RX0 yX0_askSum yX0_askSum, Cond.initialized RX0, Cond.code yX0_askSum cX0_askSum 3 (some .int), Cond.methodLink RX0 48 yX0_beginCall, Cond.instanceMethod yX0_beginCall, Cond.selects RX0 yX0_beginCall yX0_beginCall, Cond.code yX0_beginCall cX0_beginCall 1 none, Cond.fieldLink RX0 45 "PressedPlains$Book" "calls" "I", Cond.fieldLink RX0 38 "PressedPlains$Book" "latestVisits" "I"]
def wsL_isAsked_r3 : List Cond := [Cond.methodLink RX0 58 yX0_sumFrom, Cond.instanceMethod yX0_sumFrom, Cond.selects RX0 yX0_sumFrom yX0_sumFrom, Cond.code yX0_sumFrom cX0_sumFrom 4 (some .int), Cond.fieldLink RX0 27 "PressedPlains$Book" "sum" "[I", Cond.methodLink RX0 85 yX0_countVisit, Cond.instanceMethod yX0_countVisit, Cond.selects RX0 yX0_countVisit yX0_countVisit, Cond.code yX0_countVisit cX0_countVisit 1 none, Cond.fieldLink RX0 42 "PressedPlains$Book" "totalVisits" "I", Cond.methodLink RX0 69 yX0_isApart, Cond.instanceMethod yX0_isApart, Cond.selects RX0 yX0_isApart yX0_isApart, Cond.code yX0_isApart cX0_isApart 4 (some .boolean), Cond.fieldLink RX0 15 "PressedPlains$Book" "last" "[I", Cond.fieldLink RX0 11 "PressedPlains$Book" "first" "[I", Cond.methodLink RX0 88 yX0_isWithin, Cond.instanceMethod yX0_isWithin, Cond.selects RX0 yX0_isWithin yX0_isWithin, Cond.code yX0_isWithin cX0_isWithin 4 (some .boolean), Cond.methodLink RX0 82 yX0_hasParts, Cond.instanceMethod yX0_hasParts, Cond.selects RX0 yX0_hasParts yX0_hasParts, Cond.code yX0_hasParts cX0_hasParts 2 (some .boolean)]
def wsL_isAsked_r4 : List Cond := [Cond.methodLink RX0 95 yX0_catchUpBelow, Cond.instanceMethod yX0_catchUpBelow, Cond.selects RX0 yX0_catchUpBelow yX0_catchUpBelow, Cond.code yX0_catchUpBelow cX0_catchUpBelow 2 none, Cond.methodLink RX0 104 yX0_catchUp, Cond.instanceMethod yX0_catchUp, Cond.selects RX0 yX0_catchUp yX0_catchUp, Cond.code yX0_catchUp cX0_catchUp 2 none, Cond.fieldLink RX0 18 "PressedPlains$Book" "greatest" "[I", Cond.methodLink RX0 79 yX0_lags, Cond.instanceMethod yX0_lags, Cond.selects RX0 yX0_lags yX0_lags, Cond.code yX0_lags cX0_lags 2 (some .boolean), Cond.methodLink RX0 91 yX0_pressDown, Cond.instanceMethod yX0_pressDown, Cond.selects RX0 yX0_pressDown yX0_pressDown, Cond.code yX0_pressDown cX0_pressDown 3 none, Cond.fieldLink RX0 24 "PressedPlains$Book" "many" "[I", Cond.methodLink RL 23 yX2_visits, Cond.instanceMethod yX2_visits, Cond.selects RX2 yX2_visits yX2_visits, Cond.code yX2_visits cX2_visits 1 (some .int), Cond.methodLink RL 8 yX2_columns, Cond.instanceMethod yX2_columns]
def wsL_isAsked_r5 : List Cond := [Cond.selects RX2 yX2_columns yX2_columns, Cond.code yX2_columns cX2_columns 1 (some .int), Cond.methodLink RL 62 yX2_top, Cond.instanceMethod yX2_top, Cond.selects RX2 yX2_top yX2_top, Cond.code yX2_top cX2_top 3 (some .int), Cond.methodLink RX2 71 yX0_askGreatest, Cond.instanceMethod yX0_askGreatest, Cond.selects RX0 yX0_askGreatest yX0_askGreatest, Cond.code yX0_askGreatest cX0_askGreatest 3 (some .int), Cond.methodLink RX0 62 yX0_greatestFrom, Cond.instanceMethod yX0_greatestFrom, Cond.selects RX0 yX0_greatestFrom yX0_greatestFrom, Cond.code yX0_greatestFrom cX0_greatestFrom 4 (some .int), Cond.methodLink RX0 101 Lib.Math.max.name, Cond.methodLink RL 65 yX2_ceilingFor, Cond.instanceMethod yX2_ceilingFor, Cond.selects RX2 yX2_ceilingFor yX2_ceilingFor, Cond.code yX2_ceilingFor cX2_ceilingFor 5 (some .int), Cond.classLink RX2 82 "java/util/NoSuchElementException", Cond.initialized "java/util/NoSuchElementException", Cond.constant RX2 78 (64000), Cond.methodLink RX2 32 yX2_requireInRange, Cond.static yX2_requireInRange]
def wsL_isAsked_r6 : List Cond := [Cond.code yX2_requireInRange cX2_requireInRange 3 none, Cond.methodLink RX2 79 yX1_highestCeilingFor, Cond.instanceMethod yX1_highestCeilingFor, Cond.selects RX1 yX1_highestCeilingFor yX1_highestCeilingFor, Cond.code yX1_highestCeilingFor cX1_highestCeilingFor 6 (some .int), Cond.methodLink RX1 34 yX1_earthAbove, Cond.methodLink RL 69 yX2_wouldPress, Cond.instanceMethod yX2_wouldPress, Cond.selects RX2 yX2_wouldPress yX2_wouldPress, Cond.code yX2_wouldPress cX2_wouldPress 4 (some .int)]
def wsL_isAsked : List Cond := .code yL_isAsked cL_isAsked 8 (some .boolean) :: ((wsL_isAsked_r1 ++ (wsL_isAsked_r2 ++ (wsL_isAsked_r3 ++ (wsL_isAsked_r4 ++ (wsL_isAsked_r5 ++ wsL_isAsked_r6))))) ++ wsX20 ++ wsX10 ++ wsX00)
def wsL_isLowered_r1 : List Cond := [Cond.methodLink RL 69 yX2_wouldPress, Cond.instanceMethod yX2_wouldPress, Cond.selects RX2 yX2_wouldPress yX2_wouldPress, Cond.initialized RX2, Cond.code yX2_wouldPress cX2_wouldPress 4 (some .int), Cond.fieldLink RX2 19 "PressedPlains" "ground" "LPressedPlains$Ground;", Cond.methodLink RX2 55 yX2_requireSpan, Cond.instanceMethod yX2_requireSpan, Cond.selects RX2 yX2_requireSpan yX2_requireSpan, Cond.code yX2_requireSpan cX2_requireSpan 3 none, Cond.classLink RX2 137 "java/lang/IllegalArgumentException", Cond.initialized "java/lang/IllegalArgumentException", Cond.methodLink RX2 36 yX2_requireColumn, Cond.instanceMethod yX2_requireColumn, Cond.selects RX2 yX2_requireColumn yX2_requireColumn, Cond.code yX2_requireColumn cX2_requireColumn 2 none, Cond.classLink RX2 132 "java/lang/IndexOutOfBoundsException", Cond.initialized "java/lang/IndexOutOfBoundsException", Cond.methodLink RX2 32 yX2_requireInRange, Cond.static yX2_requireInRange, Cond.code yX2_requireInRange cX2_requireInRange 3 none, Cond.methodLink RX2 68 yX1_earthAbove, Cond.instanceMethod yX1_earthAbove, Cond.selects RX1 yX1_earthAbove yX1_earthAbove]
def wsL_isLowered_r2 : List Cond := [Cond.initialized RX1, Cond.code yX1_earthAbove cX1_earthAbove 6 (some .int), Cond.fieldLink RX1 9 "PressedPlains$Ground" "heights" "[I", Cond.methodLink RX1 31 Lib.Math.max.name, Cond.static Lib.Math.max.name, Cond.initialized "java/lang/Math", Cond.code Lib.Math.max.name Lib.Math.max.code 2 (some .int), Cond.methodLink RL 32 yX2_pressedAway, Cond.instanceMethod yX2_pressedAway, Cond.selects RX2 yX2_pressedAway yX2_pressedAway, Cond.code yX2_pressedAway cX2_pressedAway 1 (some .int), Cond.fieldLink RX2 28 "PressedPlains" "pressedSoFar" "I", Cond.methodLink RL 26 yX2_allVisits, Cond.instanceMethod yX2_allVisits, Cond.selects RX2 yX2_allVisits yX2_allVisits, Cond.code yX2_allVisits cX2_allVisits 1 (some .int), Cond.fieldLink RX2 12 "PressedPlains" "book" "LPressedPlains$Book;", Cond.methodLink RL 72 yX2_lower, Cond.instanceMethod yX2_lower, Cond.selects RX2 yX2_lower yX2_lower, Cond.code yX2_lower cX2_lower 5 (some .int), Cond.methodLink RX2 58 yX0_press, Cond.instanceMethod yX0_press, Cond.selects RX0 yX0_press yX0_press]
def wsL_isLowered_r3 : List Cond := [Cond.initialized RX0, Cond.code yX0_press cX0_press 5 (some .int), Cond.fieldLink RX0 27 "PressedPlains$Book" "sum" "[I", Cond.methodLink RX0 48 yX0_beginCall, Cond.instanceMethod yX0_beginCall, Cond.selects RX0 yX0_beginCall yX0_beginCall, Cond.code yX0_beginCall cX0_beginCall 1 none, Cond.fieldLink RX0 45 "PressedPlains$Book" "calls" "I", Cond.fieldLink RX0 38 "PressedPlains$Book" "latestVisits" "I", Cond.methodLink RX0 51 yX0_pressFrom, Cond.instanceMethod yX0_pressFrom, Cond.selects RX0 yX0_pressFrom yX0_pressFrom, Cond.code yX0_pressFrom cX0_pressFrom 6 none, Cond.fieldLink RX0 18 "PressedPlains$Book" "greatest" "[I", Cond.fieldLink RX0 21 "PressedPlains$Book" "second" "[I", Cond.methodLink RX0 85 yX0_countVisit, Cond.instanceMethod yX0_countVisit, Cond.selects RX0 yX0_countVisit yX0_countVisit, Cond.code yX0_countVisit cX0_countVisit 1 none, Cond.fieldLink RX0 42 "PressedPlains$Book" "totalVisits" "I", Cond.methodLink RX0 69 yX0_isApart, Cond.instanceMethod yX0_isApart, Cond.selects RX0 yX0_isApart yX0_isApart, Cond.code yX0_isApart cX0_isApart 4 (some .boolean)]
def wsL_isLowered_r4 : List Cond := [Cond.fieldLink RX0 15 "PressedPlains$Book" "last" "[I", Cond.fieldLink RX0 11 "PressedPlains$Book" "first" "[I", Cond.methodLink RX0 88 yX0_isWithin, Cond.instanceMethod yX0_isWithin, Cond.selects RX0 yX0_isWithin yX0_isWithin, Cond.code yX0_isWithin cX0_isWithin 4 (some .boolean), Cond.methodLink RX0 82 yX0_hasParts, Cond.instanceMethod yX0_hasParts, Cond.selects RX0 yX0_hasParts yX0_hasParts, Cond.code yX0_hasParts cX0_hasParts 2 (some .boolean), Cond.methodLink RX0 91 yX0_pressDown, Cond.instanceMethod yX0_pressDown, Cond.selects RX0 yX0_pressDown yX0_pressDown, Cond.code yX0_pressDown cX0_pressDown 3 none, Cond.fieldLink RX0 24 "PressedPlains$Book" "many" "[I", Cond.methodLink RX0 95 yX0_catchUpBelow, Cond.instanceMethod yX0_catchUpBelow, Cond.selects RX0 yX0_catchUpBelow yX0_catchUpBelow, Cond.code yX0_catchUpBelow cX0_catchUpBelow 2 none, Cond.methodLink RX0 104 yX0_catchUp, Cond.instanceMethod yX0_catchUp, Cond.selects RX0 yX0_catchUp yX0_catchUp, Cond.code yX0_catchUp cX0_catchUp 2 none, Cond.methodLink RX0 79 yX0_lags]
def wsL_isLowered_r5 : List Cond := [Cond.instanceMethod yX0_lags, Cond.selects RX0 yX0_lags yX0_lags, Cond.code yX0_lags cX0_lags 2 (some .boolean), Cond.methodLink RX0 98 yX0_tellAnew, Cond.instanceMethod yX0_tellAnew, Cond.selects RX0 yX0_tellAnew yX0_tellAnew, Cond.code yX0_tellAnew cX0_tellAnew 5 none, Cond.methodLink RX0 101 Lib.Math.max.name, Cond.methodLink RX0 107 yX0_manyAt, Cond.instanceMethod yX0_manyAt, Cond.selects RX0 yX0_manyAt yX0_manyAt, Cond.code yX0_manyAt cX0_manyAt 3 (some .int), Cond.methodLink RX0 110 yX0_greatestLessThan, Cond.instanceMethod yX0_greatestLessThan, Cond.selects RX0 yX0_greatestLessThan yX0_greatestLessThan, Cond.code yX0_greatestLessThan cX0_greatestLessThan 3 (some .int), Cond.methodLink RX2 62 yX1_press, Cond.instanceMethod yX1_press, Cond.selects RX1 yX1_press yX1_press, Cond.code yX1_press cX1_press 5 none, Cond.methodLink RX1 25 Lib.Math.min.name, Cond.static Lib.Math.min.name, Cond.code Lib.Math.min.name Lib.Math.min.code 2 (some .int), Cond.fieldLink RX1 15 "PressedPlains$Ground" "ceilings" "[I"]
def wsL_isLowered_r6 : List Cond := [Cond.methodLink RL 23 yX2_visits, Cond.instanceMethod yX2_visits, Cond.selects RX2 yX2_visits yX2_visits, Cond.code yX2_visits cX2_visits 1 (some .int), Cond.methodLink RL 8 yX2_columns, Cond.instanceMethod yX2_columns, Cond.selects RX2 yX2_columns yX2_columns, Cond.code yX2_columns cX2_columns 1 (some .int), Cond.methodLink RL 75 yX2_ceilingOver, Cond.instanceMethod yX2_ceilingOver, Cond.selects RX2 yX2_ceilingOver yX2_ceilingOver, Cond.code yX2_ceilingOver cX2_ceilingOver 3 (some .int), Cond.classLink RX2 82 "java/util/NoSuchElementException", Cond.initialized "java/util/NoSuchElementException", Cond.methodLink RL 46 yX2_height, Cond.instanceMethod yX2_height, Cond.selects RX2 yX2_height yX2_height, Cond.code yX2_height cX2_height 2 (some .int), Cond.methodLink RX2 74 yX0_leastGreatestOver, Cond.instanceMethod yX0_leastGreatestOver, Cond.selects RX0 yX0_leastGreatestOver yX0_leastGreatestOver, Cond.code yX0_leastGreatestOver cX0_leastGreatestOver 4 (some .int), Cond.methodLink RX0 73 Lib.Math.min.name, Cond.methodLink RX0 65 yX0_has]
def wsL_isLowered_r7 : List Cond := [Cond.instanceMethod yX0_has, Cond.selects RX0 yX0_has yX0_has, Cond.code yX0_has cX0_has 2 (some .boolean)]
def wsL_isLowered : List Cond := .code yL_isLowered cL_isLowered 8 (some .boolean) :: ((wsL_isLowered_r1 ++ (wsL_isLowered_r2 ++ (wsL_isLowered_r3 ++ (wsL_isLowered_r4 ++ (wsL_isLowered_r5 ++ (wsL_isLowered_r6 ++ wsL_isLowered_r7)))))) ++ wsX20 ++ wsX10 ++ wsX00)
def wsL_does_r1 : List Cond := [Cond.methodLink RL 8 yX2_columns, Cond.instanceMethod yX2_columns, Cond.selects RX2 yX2_columns yX2_columns, Cond.initialized RX2, Cond.code yX2_columns cX2_columns 1 (some .int), Cond.fieldLink RX2 19 "PressedPlains" "ground" "LPressedPlains$Ground;", Cond.methodLink RL 14 yL_low, Cond.static yL_low, Cond.initialized RL, Cond.code yL_low cL_low 2 (some .int), Cond.constant RL 7 (2147483647), Cond.methodLink RL 20 yX2_layOut, Cond.instanceMethod yX2_layOut, Cond.selects RX2 yX2_layOut yX2_layOut, Cond.code yX2_layOut cX2_layOut 3 (some .int), Cond.fieldLink RX2 12 "PressedPlains" "book" "LPressedPlains$Book;", Cond.fieldLink RX2 28 "PressedPlains" "pressedSoFar" "I", Cond.methodLink RX2 32 yX2_requireInRange, Cond.static yX2_requireInRange, Cond.code yX2_requireInRange cX2_requireInRange 3 none, Cond.classLink RX2 137 "java/lang/IllegalArgumentException", Cond.initialized "java/lang/IllegalArgumentException", Cond.methodLink RX2 23 yX0_renew, Cond.instanceMethod yX0_renew]
def wsL_does_r2 : List Cond := [Cond.selects RX0 yX0_renew yX0_renew, Cond.initialized RX0, Cond.code yX0_renew cX0_renew 5 none, Cond.fieldLink RX0 15 "PressedPlains$Book" "last" "[I", Cond.fieldLink RX0 11 "PressedPlains$Book" "first" "[I", Cond.fieldLink RX0 18 "PressedPlains$Book" "greatest" "[I", Cond.fieldLink RX0 21 "PressedPlains$Book" "second" "[I", Cond.fieldLink RX0 24 "PressedPlains$Book" "many" "[I", Cond.fieldLink RX0 27 "PressedPlains$Book" "sum" "[I", Cond.fieldLink RX0 38 "PressedPlains$Book" "latestVisits" "I", Cond.fieldLink RX0 42 "PressedPlains$Book" "totalVisits" "I", Cond.fieldLink RX0 45 "PressedPlains$Book" "calls" "I", Cond.methodLink RX0 30 yX0_setSpan, Cond.instanceMethod yX0_setSpan, Cond.selects RX0 yX0_setSpan yX0_setSpan, Cond.code yX0_setSpan cX0_setSpan 4 none, Cond.methodLink RX0 34 yX0_splitSpan, Cond.instanceMethod yX0_splitSpan, Cond.selects RX0 yX0_splitSpan yX0_splitSpan, Cond.code yX0_splitSpan cX0_splitSpan 3 none, Cond.methodLink RX0 82 yX0_hasParts, Cond.instanceMethod yX0_hasParts, Cond.selects RX0 yX0_hasParts yX0_hasParts, Cond.code yX0_hasParts cX0_hasParts 2 (some .boolean)]
def wsL_does_r3 : List Cond := [Cond.methodLink RX2 27 yX1_renew, Cond.instanceMethod yX1_renew, Cond.selects RX1 yX1_renew yX1_renew, Cond.initialized RX1, Cond.code yX1_renew cX1_renew 4 none, Cond.fieldLink RX1 18 "PressedPlains$Ground" "count" "I", Cond.fieldLink RX1 22 "PressedPlains$Ground" "given" "I", Cond.fieldLink RX1 9 "PressedPlains$Ground" "heights" "[I", Cond.fieldLink RX1 15 "PressedPlains$Ground" "ceilings" "[I", Cond.methodLink RL 23 yX2_visits, Cond.instanceMethod yX2_visits, Cond.selects RX2 yX2_visits yX2_visits, Cond.code yX2_visits cX2_visits 1 (some .int), Cond.methodLink RL 26 yX2_allVisits, Cond.instanceMethod yX2_allVisits, Cond.selects RX2 yX2_allVisits yX2_allVisits, Cond.code yX2_allVisits cX2_allVisits 1 (some .int), Cond.methodLink RL 29 yX2_lagging, Cond.instanceMethod yX2_lagging, Cond.selects RX2 yX2_lagging yX2_lagging, Cond.code yX2_lagging cX2_lagging 1 (some .int), Cond.methodLink RX2 116 yX0_countLagging, Cond.instanceMethod yX0_countLagging, Cond.selects RX0 yX0_countLagging yX0_countLagging]
def wsL_does_r4 : List Cond := [Cond.code yX0_countLagging cX0_countLagging 3 (some .int), Cond.methodLink RX0 65 yX0_has, Cond.instanceMethod yX0_has, Cond.selects RX0 yX0_has yX0_has, Cond.code yX0_has cX0_has 2 (some .boolean), Cond.methodLink RX0 79 yX0_lags, Cond.instanceMethod yX0_lags, Cond.selects RX0 yX0_lags yX0_lags, Cond.code yX0_lags cX0_lags 2 (some .boolean), Cond.methodLink RL 32 yX2_pressedAway, Cond.instanceMethod yX2_pressedAway, Cond.selects RX2 yX2_pressedAway yX2_pressedAway, Cond.code yX2_pressedAway cX2_pressedAway 1 (some .int), Cond.methodLink RL 35 yL_isPiled, Cond.static yL_isPiled, Cond.code yL_isPiled cL_isPiled 8 (some .boolean), Cond.methodLink RL 46 yX2_height, Cond.instanceMethod yX2_height, Cond.selects RX2 yX2_height yX2_height, Cond.code yX2_height cX2_height 2 (some .int), Cond.methodLink RX2 36 yX2_requireColumn, Cond.instanceMethod yX2_requireColumn, Cond.selects RX2 yX2_requireColumn yX2_requireColumn, Cond.code yX2_requireColumn cX2_requireColumn 2 none]
def wsL_does_r5 : List Cond := [Cond.classLink RX2 132 "java/lang/IndexOutOfBoundsException", Cond.initialized "java/lang/IndexOutOfBoundsException", Cond.methodLink RX2 74 yX0_leastGreatestOver, Cond.instanceMethod yX0_leastGreatestOver, Cond.selects RX0 yX0_leastGreatestOver yX0_leastGreatestOver, Cond.code yX0_leastGreatestOver cX0_leastGreatestOver 4 (some .int), Cond.methodLink RX0 73 Lib.Math.min.name, Cond.static Lib.Math.min.name, Cond.initialized "java/lang/Math", Cond.code Lib.Math.min.name Lib.Math.min.code 2 (some .int), Cond.methodLink RX0 69 yX0_isApart, Cond.instanceMethod yX0_isApart, Cond.selects RX0 yX0_isApart yX0_isApart, Cond.code yX0_isApart cX0_isApart 4 (some .boolean), Cond.methodLink RL 50 yX2_heightOfColumn, Cond.instanceMethod yX2_heightOfColumn, Cond.selects RX2 yX2_heightOfColumn yX2_heightOfColumn, Cond.code yX2_heightOfColumn cX2_heightOfColumn 2 (some .int), Cond.methodLink RL 53 yX2_pile, Cond.instanceMethod yX2_pile, Cond.selects RX2 yX2_pile yX2_pile, Cond.code yX2_pile cX2_pile 4 (some .int), Cond.classLink RX2 44 "java/lang/IllegalStateException", Cond.initialized "java/lang/IllegalStateException"]
def wsL_does_r6 : List Cond := [Cond.methodLink RX2 51 yX1_raise, Cond.instanceMethod yX1_raise, Cond.selects RX1 yX1_raise yX1_raise, Cond.code yX1_raise cX1_raise 3 none, Cond.methodLink RX2 54 yX0_raise, Cond.instanceMethod yX0_raise, Cond.selects RX0 yX0_raise yX0_raise, Cond.code yX0_raise cX0_raise 3 none, Cond.methodLink RX0 48 yX0_beginCall, Cond.instanceMethod yX0_beginCall, Cond.selects RX0 yX0_beginCall yX0_beginCall, Cond.code yX0_beginCall cX0_beginCall 1 none, Cond.methodLink RX0 55 yX0_raiseFrom, Cond.instanceMethod yX0_raiseFrom, Cond.selects RX0 yX0_raiseFrom yX0_raiseFrom, Cond.code yX0_raiseFrom cX0_raiseFrom 5 none, Cond.methodLink RX0 85 yX0_countVisit, Cond.instanceMethod yX0_countVisit, Cond.selects RX0 yX0_countVisit yX0_countVisit, Cond.code yX0_countVisit cX0_countVisit 1 none, Cond.methodLink RX0 95 yX0_catchUpBelow, Cond.instanceMethod yX0_catchUpBelow, Cond.selects RX0 yX0_catchUpBelow yX0_catchUpBelow, Cond.code yX0_catchUpBelow cX0_catchUpBelow 2 none]
def wsL_does_r7 : List Cond := [Cond.methodLink RX0 104 yX0_catchUp, Cond.instanceMethod yX0_catchUp, Cond.selects RX0 yX0_catchUp yX0_catchUp, Cond.code yX0_catchUp cX0_catchUp 2 none, Cond.methodLink RX0 91 yX0_pressDown, Cond.instanceMethod yX0_pressDown, Cond.selects RX0 yX0_pressDown yX0_pressDown, Cond.code yX0_pressDown cX0_pressDown 3 none, Cond.methodLink RX0 98 yX0_tellAnew, Cond.instanceMethod yX0_tellAnew, Cond.selects RX0 yX0_tellAnew yX0_tellAnew, Cond.code yX0_tellAnew cX0_tellAnew 5 none, Cond.methodLink RX0 101 Lib.Math.max.name, Cond.static Lib.Math.max.name, Cond.code Lib.Math.max.name Lib.Math.max.code 2 (some .int), Cond.methodLink RX0 107 yX0_manyAt, Cond.instanceMethod yX0_manyAt, Cond.selects RX0 yX0_manyAt yX0_manyAt, Cond.code yX0_manyAt cX0_manyAt 3 (some .int), Cond.methodLink RX0 110 yX0_greatestLessThan, Cond.instanceMethod yX0_greatestLessThan, Cond.selects RX0 yX0_greatestLessThan yX0_greatestLessThan, Cond.code yX0_greatestLessThan cX0_greatestLessThan 3 (some .int), Cond.methodLink RL 39 yL_isAsked]
def wsL_does_r8 : List Cond := [Cond.static yL_isAsked, Cond.code yL_isAsked cL_isAsked 8 (some .boolean), Cond.methodLink RL 56 yX2_earthByColumns, Cond.instanceMethod yX2_earthByColumns, Cond.selects RX2 yX2_earthByColumns yX2_earthByColumns, Cond.code yX2_earthByColumns cX2_earthByColumns 3 (some .int), Cond.methodLink RX2 55 yX2_requireSpan, Cond.instanceMethod yX2_requireSpan, Cond.selects RX2 yX2_requireSpan yX2_requireSpan, Cond.code yX2_requireSpan cX2_requireSpan 3 none, Cond.methodLink RX2 68 yX1_earthAbove, Cond.instanceMethod yX1_earthAbove, Cond.selects RX1 yX1_earthAbove yX1_earthAbove, Cond.code yX1_earthAbove cX1_earthAbove 6 (some .int), Cond.methodLink RX1 31 Lib.Math.max.name, Cond.methodLink RL 59 yX2_earth, Cond.instanceMethod yX2_earth, Cond.selects RX2 yX2_earth yX2_earth, Cond.code yX2_earth cX2_earth 3 (some .int), Cond.methodLink RX2 64 yX0_askSum, Cond.instanceMethod yX0_askSum, Cond.selects RX0 yX0_askSum yX0_askSum, Cond.code yX0_askSum cX0_askSum 3 (some .int), Cond.methodLink RX0 58 yX0_sumFrom]
def wsL_does_r9 : List Cond := [Cond.instanceMethod yX0_sumFrom, Cond.selects RX0 yX0_sumFrom yX0_sumFrom, Cond.code yX0_sumFrom cX0_sumFrom 4 (some .int), Cond.methodLink RX0 88 yX0_isWithin, Cond.instanceMethod yX0_isWithin, Cond.selects RX0 yX0_isWithin yX0_isWithin, Cond.code yX0_isWithin cX0_isWithin 4 (some .boolean), Cond.methodLink RL 62 yX2_top, Cond.instanceMethod yX2_top, Cond.selects RX2 yX2_top yX2_top, Cond.code yX2_top cX2_top 3 (some .int), Cond.methodLink RX2 71 yX0_askGreatest, Cond.instanceMethod yX0_askGreatest, Cond.selects RX0 yX0_askGreatest yX0_askGreatest, Cond.code yX0_askGreatest cX0_askGreatest 3 (some .int), Cond.methodLink RX0 62 yX0_greatestFrom, Cond.instanceMethod yX0_greatestFrom, Cond.selects RX0 yX0_greatestFrom yX0_greatestFrom, Cond.code yX0_greatestFrom cX0_greatestFrom 4 (some .int), Cond.methodLink RL 65 yX2_ceilingFor, Cond.instanceMethod yX2_ceilingFor, Cond.selects RX2 yX2_ceilingFor yX2_ceilingFor, Cond.code yX2_ceilingFor cX2_ceilingFor 5 (some .int), Cond.classLink RX2 82 "java/util/NoSuchElementException"]
def wsL_does_r10 : List Cond := [Cond.initialized "java/util/NoSuchElementException", Cond.constant RX2 78 (64000), Cond.methodLink RX2 79 yX1_highestCeilingFor, Cond.instanceMethod yX1_highestCeilingFor, Cond.selects RX1 yX1_highestCeilingFor yX1_highestCeilingFor, Cond.code yX1_highestCeilingFor cX1_highestCeilingFor 6 (some .int), Cond.methodLink RX1 34 yX1_earthAbove, Cond.methodLink RL 69 yX2_wouldPress, Cond.instanceMethod yX2_wouldPress, Cond.selects RX2 yX2_wouldPress yX2_wouldPress, Cond.code yX2_wouldPress cX2_wouldPress 4 (some .int), Cond.methodLink RL 43 yL_isLowered, Cond.static yL_isLowered, Cond.code yL_isLowered cL_isLowered 8 (some .boolean), Cond.methodLink RL 72 yX2_lower, Cond.instanceMethod yX2_lower, Cond.selects RX2 yX2_lower yX2_lower, Cond.code yX2_lower cX2_lower 5 (some .int), Cond.methodLink RX2 58 yX0_press, Cond.instanceMethod yX0_press, Cond.selects RX0 yX0_press yX0_press, Cond.code yX0_press cX0_press 5 (some .int), Cond.methodLink RX0 51 yX0_pressFrom, Cond.instanceMethod yX0_pressFrom]
def wsL_does_r11 : List Cond := [Cond.selects RX0 yX0_pressFrom yX0_pressFrom, Cond.code yX0_pressFrom cX0_pressFrom 6 none, Cond.methodLink RX2 62 yX1_press, Cond.instanceMethod yX1_press, Cond.selects RX1 yX1_press yX1_press, Cond.code yX1_press cX1_press 5 none, Cond.methodLink RX1 25 Lib.Math.min.name, Cond.methodLink RL 75 yX2_ceilingOver, Cond.instanceMethod yX2_ceilingOver, Cond.selects RX2 yX2_ceilingOver yX2_ceilingOver, Cond.code yX2_ceilingOver cX2_ceilingOver 3 (some .int)]
def wsL_does : List Cond := .code yL_does cL_does 8 (some .boolean) :: ((wsL_does_r1 ++ (wsL_does_r2 ++ (wsL_does_r3 ++ (wsL_does_r4 ++ (wsL_does_r5 ++ (wsL_does_r6 ++ (wsL_does_r7 ++ (wsL_does_r8 ++ (wsL_does_r9 ++ (wsL_does_r10 ++ wsL_does_r11)))))))))) ++ wsX20 ++ wsX10 ++ wsX00)
def wsL_isEntrySo_r1 : List Cond := [Cond.methodLink RL 78 yX2_greatest, Cond.instanceMethod yX2_greatest, Cond.selects RX2 yX2_greatest yX2_greatest, Cond.initialized RX2, Cond.code yX2_greatest cX2_greatest 2 (some .int), Cond.fieldLink RX2 12 "PressedPlains" "book" "LPressedPlains$Book;", Cond.methodLink RX2 95 yX2_requireEntry, Cond.instanceMethod yX2_requireEntry, Cond.selects RX2 yX2_requireEntry yX2_requireEntry, Cond.code yX2_requireEntry cX2_requireEntry 2 none, Cond.classLink RX2 132 "java/lang/IndexOutOfBoundsException", Cond.initialized "java/lang/IndexOutOfBoundsException", Cond.methodLink RX2 142 yX0_has, Cond.instanceMethod yX0_has, Cond.selects RX0 yX0_has yX0_has, Cond.initialized RX0, Cond.code yX0_has cX0_has 2 (some .boolean), Cond.fieldLink RX0 15 "PressedPlains$Book" "last" "[I", Cond.methodLink RL 81 yX2_spanOf, Cond.instanceMethod yX2_spanOf, Cond.selects RX2 yX2_spanOf yX2_spanOf, Cond.code yX2_spanOf cX2_spanOf 2 (some .int), Cond.methodLink RL 50 yX2_heightOfColumn, Cond.instanceMethod yX2_heightOfColumn]
def wsL_isEntrySo_r2 : List Cond := [Cond.selects RX2 yX2_heightOfColumn yX2_heightOfColumn, Cond.code yX2_heightOfColumn cX2_heightOfColumn 2 (some .int), Cond.fieldLink RX2 19 "PressedPlains" "ground" "LPressedPlains$Ground;", Cond.methodLink RX2 36 yX2_requireColumn, Cond.instanceMethod yX2_requireColumn, Cond.selects RX2 yX2_requireColumn yX2_requireColumn, Cond.code yX2_requireColumn cX2_requireColumn 2 none, Cond.methodLink RL 56 yX2_earthByColumns, Cond.instanceMethod yX2_earthByColumns, Cond.selects RX2 yX2_earthByColumns yX2_earthByColumns, Cond.code yX2_earthByColumns cX2_earthByColumns 3 (some .int), Cond.methodLink RX2 55 yX2_requireSpan, Cond.instanceMethod yX2_requireSpan, Cond.selects RX2 yX2_requireSpan yX2_requireSpan, Cond.code yX2_requireSpan cX2_requireSpan 3 none, Cond.classLink RX2 137 "java/lang/IllegalArgumentException", Cond.initialized "java/lang/IllegalArgumentException", Cond.methodLink RX2 68 yX1_earthAbove, Cond.instanceMethod yX1_earthAbove, Cond.selects RX1 yX1_earthAbove yX1_earthAbove, Cond.initialized RX1, Cond.code yX1_earthAbove cX1_earthAbove 6 (some .int), Cond.fieldLink RX1 9 "PressedPlains$Ground" "heights" "[I", Cond.methodLink RX1 31 Lib.Math.max.name]
def wsL_isEntrySo_r3 : List Cond := [Cond.static Lib.Math.max.name, Cond.initialized "java/lang/Math", Cond.code Lib.Math.max.name Lib.Math.max.code 2 (some .int), Cond.methodLink RL 84 yX2_noted, Cond.instanceMethod yX2_noted, Cond.selects RX2 yX2_noted yX2_noted, Cond.code yX2_noted cX2_noted 2 (some .int), Cond.methodLink RL 87 yX2_second, Cond.instanceMethod yX2_second, Cond.selects RX2 yX2_second yX2_second, Cond.code yX2_second cX2_second 2 (some .int), Cond.methodLink RL 90 yX2_many, Cond.instanceMethod yX2_many, Cond.selects RX2 yX2_many yX2_many, Cond.code yX2_many cX2_many 2 (some .int), Cond.methodLink RL 46 yX2_height, Cond.instanceMethod yX2_height, Cond.selects RX2 yX2_height yX2_height, Cond.code yX2_height cX2_height 2 (some .int), Cond.methodLink RX2 74 yX0_leastGreatestOver, Cond.instanceMethod yX0_leastGreatestOver, Cond.selects RX0 yX0_leastGreatestOver yX0_leastGreatestOver, Cond.code yX0_leastGreatestOver cX0_leastGreatestOver 4 (some .int), Cond.fieldLink RX0 18 "PressedPlains$Book" "greatest" "[I"]
def wsL_isEntrySo_r4 : List Cond := [Cond.methodLink RX0 73 Lib.Math.min.name, Cond.static Lib.Math.min.name, Cond.code Lib.Math.min.name Lib.Math.min.code 2 (some .int), Cond.methodLink RX0 65 yX0_has, Cond.methodLink RX0 69 yX0_isApart, Cond.instanceMethod yX0_isApart, Cond.selects RX0 yX0_isApart yX0_isApart, Cond.code yX0_isApart cX0_isApart 4 (some .boolean), Cond.fieldLink RX0 11 "PressedPlains$Book" "first" "[I"]
def wsL_isEntrySo : List Cond := .code yL_isEntrySo cL_isEntrySo 14 (some .boolean) :: ((wsL_isEntrySo_r1 ++ (wsL_isEntrySo_r2 ++ (wsL_isEntrySo_r3 ++ wsL_isEntrySo_r4))) ++ wsX20 ++ wsX00 ++ wsX10)
def wsL_isSo_r1 : List Cond := [Cond.methodLink RL 8 yX2_columns, Cond.instanceMethod yX2_columns, Cond.selects RX2 yX2_columns yX2_columns, Cond.initialized RX2, Cond.code yX2_columns cX2_columns 1 (some .int), Cond.fieldLink RX2 19 "PressedPlains" "ground" "LPressedPlains$Ground;", Cond.methodLink RL 50 yX2_heightOfColumn, Cond.instanceMethod yX2_heightOfColumn, Cond.selects RX2 yX2_heightOfColumn yX2_heightOfColumn, Cond.code yX2_heightOfColumn cX2_heightOfColumn 2 (some .int), Cond.methodLink RX2 36 yX2_requireColumn, Cond.instanceMethod yX2_requireColumn, Cond.selects RX2 yX2_requireColumn yX2_requireColumn, Cond.code yX2_requireColumn cX2_requireColumn 2 none, Cond.classLink RX2 132 "java/lang/IndexOutOfBoundsException", Cond.initialized "java/lang/IndexOutOfBoundsException", Cond.methodLink RL 84 yX2_noted, Cond.instanceMethod yX2_noted, Cond.selects RX2 yX2_noted yX2_noted, Cond.code yX2_noted cX2_noted 2 (some .int), Cond.fieldLink RX2 12 "PressedPlains" "book" "LPressedPlains$Book;", Cond.methodLink RX2 95 yX2_requireEntry, Cond.instanceMethod yX2_requireEntry, Cond.selects RX2 yX2_requireEntry yX2_requireEntry]
def wsL_isSo_r2 : List Cond := [Cond.code yX2_requireEntry cX2_requireEntry 2 none, Cond.methodLink RX2 142 yX0_has, Cond.instanceMethod yX0_has, Cond.selects RX0 yX0_has yX0_has, Cond.initialized RX0, Cond.code yX0_has cX0_has 2 (some .boolean), Cond.fieldLink RX0 15 "PressedPlains$Book" "last" "[I", Cond.methodLink RL 56 yX2_earthByColumns, Cond.instanceMethod yX2_earthByColumns, Cond.selects RX2 yX2_earthByColumns yX2_earthByColumns, Cond.code yX2_earthByColumns cX2_earthByColumns 3 (some .int), Cond.methodLink RX2 55 yX2_requireSpan, Cond.instanceMethod yX2_requireSpan, Cond.selects RX2 yX2_requireSpan yX2_requireSpan, Cond.code yX2_requireSpan cX2_requireSpan 3 none, Cond.classLink RX2 137 "java/lang/IllegalArgumentException", Cond.initialized "java/lang/IllegalArgumentException", Cond.methodLink RX2 68 yX1_earthAbove, Cond.instanceMethod yX1_earthAbove, Cond.selects RX1 yX1_earthAbove yX1_earthAbove, Cond.initialized RX1, Cond.code yX1_earthAbove cX1_earthAbove 6 (some .int), Cond.fieldLink RX1 9 "PressedPlains$Ground" "heights" "[I", Cond.methodLink RX1 31 Lib.Math.max.name]
def wsL_isSo_r3 : List Cond := [Cond.static Lib.Math.max.name, Cond.initialized "java/lang/Math", Cond.code Lib.Math.max.name Lib.Math.max.code 2 (some .int), Cond.methodLink RL 78 yX2_greatest, Cond.instanceMethod yX2_greatest, Cond.selects RX2 yX2_greatest yX2_greatest, Cond.code yX2_greatest cX2_greatest 2 (some .int), Cond.methodLink RL 32 yX2_pressedAway, Cond.instanceMethod yX2_pressedAway, Cond.selects RX2 yX2_pressedAway yX2_pressedAway, Cond.code yX2_pressedAway cX2_pressedAway 1 (some .int), Cond.fieldLink RX2 28 "PressedPlains" "pressedSoFar" "I", Cond.methodLink RL 93 yX2_pressedAwayByRest, Cond.instanceMethod yX2_pressedAwayByRest, Cond.selects RX2 yX2_pressedAwayByRest yX2_pressedAwayByRest, Cond.code yX2_pressedAwayByRest cX2_pressedAwayByRest 1 (some .int), Cond.methodLink RL 29 yX2_lagging, Cond.instanceMethod yX2_lagging, Cond.selects RX2 yX2_lagging yX2_lagging, Cond.code yX2_lagging cX2_lagging 1 (some .int), Cond.methodLink RX2 116 yX0_countLagging, Cond.instanceMethod yX0_countLagging, Cond.selects RX0 yX0_countLagging yX0_countLagging, Cond.code yX0_countLagging cX0_countLagging 3 (some .int)]
def wsL_isSo_r4 : List Cond := [Cond.methodLink RX0 65 yX0_has, Cond.methodLink RX0 79 yX0_lags, Cond.instanceMethod yX0_lags, Cond.selects RX0 yX0_lags yX0_lags, Cond.code yX0_lags cX0_lags 2 (some .boolean), Cond.fieldLink RX0 18 "PressedPlains$Book" "greatest" "[I", Cond.methodLink RL 96 yX2_meanVisits, Cond.instanceMethod yX2_meanVisits, Cond.selects RX2 yX2_meanVisits yX2_meanVisits, Cond.code yX2_meanVisits cX2_meanVisits 1 (some .double), Cond.methodLink RL 26 yX2_allVisits, Cond.instanceMethod yX2_allVisits, Cond.selects RX2 yX2_allVisits yX2_allVisits, Cond.code yX2_allVisits cX2_allVisits 1 (some .int)]
def wsL_isSo : List Cond := .code yL_isSo cL_isSo 4 (some .boolean) :: ((wsL_isSo_r1 ++ (wsL_isSo_r2 ++ (wsL_isSo_r3 ++ wsL_isSo_r4))) ++ wsX20 ++ wsX10 ++ wsX00)
def wsL_law0_r1 : List Cond := [Cond.classLink RL 9 RX2, Cond.instantiable RX2 3, Cond.initialized RX2, Cond.methodLink RL 100 yX2_init, Cond.instanceMethod yX2_init, Cond.code yX2_init cX2_init 1 none, Cond.methodLink RX2 3 objectInit, Cond.instanceMethod objectInit, Cond.code objectInit ⟨#[0xb1]⟩ 1 none, Cond.classLink RX2 9 RX0, Cond.instantiable RX0 9, Cond.initialized RX0, Cond.fieldLink RX2 12 "PressedPlains" "book" "LPressedPlains$Book;", Cond.classLink RX2 16 RX1, Cond.instantiable RX1 4, Cond.initialized RX1, Cond.fieldLink RX2 19 "PressedPlains" "ground" "LPressedPlains$Ground;", Cond.fieldLink RX2 28 "PressedPlains" "pressedSoFar" "I", Cond.instanceMethod yX0_init, Cond.code yX0_init cX0_init 1 none, Cond.methodLink RX0 3 objectInit, Cond.arrayClass .int, Cond.fieldLink RX0 11 "PressedPlains$Book" "first" "[I", Cond.fieldLink RX0 15 "PressedPlains$Book" "last" "[I"]
def wsL_law0_r2 : List Cond := [Cond.fieldLink RX0 18 "PressedPlains$Book" "greatest" "[I", Cond.fieldLink RX0 21 "PressedPlains$Book" "second" "[I", Cond.fieldLink RX0 24 "PressedPlains$Book" "many" "[I", Cond.fieldLink RX0 27 "PressedPlains$Book" "sum" "[I", Cond.instanceMethod yX1_init, Cond.code yX1_init cX1_init 1 none, Cond.methodLink RX1 3 objectInit, Cond.fieldLink RX1 9 "PressedPlains$Ground" "heights" "[I", Cond.fieldLink RX1 15 "PressedPlains$Ground" "ceilings" "[I", Cond.methodLink RX2 23 yX0_renew, Cond.instanceMethod yX0_renew, Cond.selects RX0 yX0_renew yX0_renew, Cond.code yX0_renew cX0_renew 5 none, Cond.fieldLink RX0 38 "PressedPlains$Book" "latestVisits" "I", Cond.fieldLink RX0 42 "PressedPlains$Book" "totalVisits" "I", Cond.fieldLink RX0 45 "PressedPlains$Book" "calls" "I", Cond.methodLink RX0 30 yX0_setSpan, Cond.instanceMethod yX0_setSpan, Cond.selects RX0 yX0_setSpan yX0_setSpan, Cond.code yX0_setSpan cX0_setSpan 4 none, Cond.methodLink RX0 34 yX0_splitSpan, Cond.instanceMethod yX0_splitSpan, Cond.selects RX0 yX0_splitSpan yX0_splitSpan, Cond.code yX0_splitSpan cX0_splitSpan 3 none]
def wsL_law0_r3 : List Cond := [Cond.methodLink RX0 82 yX0_hasParts, Cond.instanceMethod yX0_hasParts, Cond.selects RX0 yX0_hasParts yX0_hasParts, Cond.code yX0_hasParts cX0_hasParts 2 (some .boolean), Cond.methodLink RX2 27 yX1_renew, Cond.instanceMethod yX1_renew, Cond.selects RX1 yX1_renew yX1_renew, Cond.code yX1_renew cX1_renew 4 none, Cond.fieldLink RX1 18 "PressedPlains$Ground" "count" "I", Cond.fieldLink RX1 22 "PressedPlains$Ground" "given" "I", Cond.methodLink RL 101 yL_cell, Cond.static yL_cell, Cond.initialized RL, Cond.code yL_cell cL_cell 2 (some .int), Cond.methodLink RL 14 yL_low, Cond.static yL_low, Cond.code yL_low cL_low 2 (some .int), Cond.constant RL 7 (2147483647), Cond.methodLink RL 20 yX2_layOut, Cond.instanceMethod yX2_layOut, Cond.selects RX2 yX2_layOut yX2_layOut, Cond.code yX2_layOut cX2_layOut 3 (some .int), Cond.methodLink RX2 32 yX2_requireInRange, Cond.static yX2_requireInRange]
def wsL_law0_r4 : List Cond := [Cond.code yX2_requireInRange cX2_requireInRange 3 none, Cond.classLink RX2 137 "java/lang/IllegalArgumentException", Cond.initialized "java/lang/IllegalArgumentException", Cond.methodLink RL 105 yL_does, Cond.static yL_does, Cond.code yL_does cL_does 8 (some .boolean), Cond.methodLink RL 8 yX2_columns, Cond.instanceMethod yX2_columns, Cond.selects RX2 yX2_columns yX2_columns, Cond.code yX2_columns cX2_columns 1 (some .int), Cond.methodLink RL 23 yX2_visits, Cond.instanceMethod yX2_visits, Cond.selects RX2 yX2_visits yX2_visits, Cond.code yX2_visits cX2_visits 1 (some .int), Cond.methodLink RL 26 yX2_allVisits, Cond.instanceMethod yX2_allVisits, Cond.selects RX2 yX2_allVisits yX2_allVisits, Cond.code yX2_allVisits cX2_allVisits 1 (some .int), Cond.methodLink RL 29 yX2_lagging, Cond.instanceMethod yX2_lagging, Cond.selects RX2 yX2_lagging yX2_lagging, Cond.code yX2_lagging cX2_lagging 1 (some .int), Cond.methodLink RX2 116 yX0_countLagging, Cond.instanceMethod yX0_countLagging]
def wsL_law0_r5 : List Cond := [Cond.selects RX0 yX0_countLagging yX0_countLagging, Cond.code yX0_countLagging cX0_countLagging 3 (some .int), Cond.methodLink RX0 65 yX0_has, Cond.instanceMethod yX0_has, Cond.selects RX0 yX0_has yX0_has, Cond.code yX0_has cX0_has 2 (some .boolean), Cond.methodLink RX0 79 yX0_lags, Cond.instanceMethod yX0_lags, Cond.selects RX0 yX0_lags yX0_lags, Cond.code yX0_lags cX0_lags 2 (some .boolean), Cond.methodLink RL 32 yX2_pressedAway, Cond.instanceMethod yX2_pressedAway, Cond.selects RX2 yX2_pressedAway yX2_pressedAway, Cond.code yX2_pressedAway cX2_pressedAway 1 (some .int), Cond.methodLink RL 35 yL_isPiled, Cond.static yL_isPiled, Cond.code yL_isPiled cL_isPiled 8 (some .boolean), Cond.methodLink RL 46 yX2_height, Cond.instanceMethod yX2_height, Cond.selects RX2 yX2_height yX2_height, Cond.code yX2_height cX2_height 2 (some .int), Cond.methodLink RX2 36 yX2_requireColumn, Cond.instanceMethod yX2_requireColumn, Cond.selects RX2 yX2_requireColumn yX2_requireColumn]
def wsL_law0_r6 : List Cond := [Cond.code yX2_requireColumn cX2_requireColumn 2 none, Cond.classLink RX2 132 "java/lang/IndexOutOfBoundsException", Cond.initialized "java/lang/IndexOutOfBoundsException", Cond.methodLink RX2 74 yX0_leastGreatestOver, Cond.instanceMethod yX0_leastGreatestOver, Cond.selects RX0 yX0_leastGreatestOver yX0_leastGreatestOver, Cond.code yX0_leastGreatestOver cX0_leastGreatestOver 4 (some .int), Cond.methodLink RX0 73 Lib.Math.min.name, Cond.static Lib.Math.min.name, Cond.initialized "java/lang/Math", Cond.code Lib.Math.min.name Lib.Math.min.code 2 (some .int), Cond.methodLink RX0 69 yX0_isApart, Cond.instanceMethod yX0_isApart, Cond.selects RX0 yX0_isApart yX0_isApart, Cond.code yX0_isApart cX0_isApart 4 (some .boolean), Cond.methodLink RL 50 yX2_heightOfColumn, Cond.instanceMethod yX2_heightOfColumn, Cond.selects RX2 yX2_heightOfColumn yX2_heightOfColumn, Cond.code yX2_heightOfColumn cX2_heightOfColumn 2 (some .int), Cond.methodLink RL 53 yX2_pile, Cond.instanceMethod yX2_pile, Cond.selects RX2 yX2_pile yX2_pile, Cond.code yX2_pile cX2_pile 4 (some .int), Cond.classLink RX2 44 "java/lang/IllegalStateException"]
def wsL_law0_r7 : List Cond := [Cond.initialized "java/lang/IllegalStateException", Cond.methodLink RX2 51 yX1_raise, Cond.instanceMethod yX1_raise, Cond.selects RX1 yX1_raise yX1_raise, Cond.code yX1_raise cX1_raise 3 none, Cond.methodLink RX2 54 yX0_raise, Cond.instanceMethod yX0_raise, Cond.selects RX0 yX0_raise yX0_raise, Cond.code yX0_raise cX0_raise 3 none, Cond.methodLink RX0 48 yX0_beginCall, Cond.instanceMethod yX0_beginCall, Cond.selects RX0 yX0_beginCall yX0_beginCall, Cond.code yX0_beginCall cX0_beginCall 1 none, Cond.methodLink RX0 55 yX0_raiseFrom, Cond.instanceMethod yX0_raiseFrom, Cond.selects RX0 yX0_raiseFrom yX0_raiseFrom, Cond.code yX0_raiseFrom cX0_raiseFrom 5 none, Cond.methodLink RX0 85 yX0_countVisit, Cond.instanceMethod yX0_countVisit, Cond.selects RX0 yX0_countVisit yX0_countVisit, Cond.code yX0_countVisit cX0_countVisit 1 none, Cond.methodLink RX0 95 yX0_catchUpBelow, Cond.instanceMethod yX0_catchUpBelow, Cond.selects RX0 yX0_catchUpBelow yX0_catchUpBelow]
def wsL_law0_r8 : List Cond := [Cond.code yX0_catchUpBelow cX0_catchUpBelow 2 none, Cond.methodLink RX0 104 yX0_catchUp, Cond.instanceMethod yX0_catchUp, Cond.selects RX0 yX0_catchUp yX0_catchUp, Cond.code yX0_catchUp cX0_catchUp 2 none, Cond.methodLink RX0 91 yX0_pressDown, Cond.instanceMethod yX0_pressDown, Cond.selects RX0 yX0_pressDown yX0_pressDown, Cond.code yX0_pressDown cX0_pressDown 3 none, Cond.methodLink RX0 98 yX0_tellAnew, Cond.instanceMethod yX0_tellAnew, Cond.selects RX0 yX0_tellAnew yX0_tellAnew, Cond.code yX0_tellAnew cX0_tellAnew 5 none, Cond.methodLink RX0 101 Lib.Math.max.name, Cond.static Lib.Math.max.name, Cond.code Lib.Math.max.name Lib.Math.max.code 2 (some .int), Cond.methodLink RX0 107 yX0_manyAt, Cond.instanceMethod yX0_manyAt, Cond.selects RX0 yX0_manyAt yX0_manyAt, Cond.code yX0_manyAt cX0_manyAt 3 (some .int), Cond.methodLink RX0 110 yX0_greatestLessThan, Cond.instanceMethod yX0_greatestLessThan, Cond.selects RX0 yX0_greatestLessThan yX0_greatestLessThan, Cond.code yX0_greatestLessThan cX0_greatestLessThan 3 (some .int)]
def wsL_law0_r9 : List Cond := [Cond.methodLink RL 39 yL_isAsked, Cond.static yL_isAsked, Cond.code yL_isAsked cL_isAsked 8 (some .boolean), Cond.methodLink RL 56 yX2_earthByColumns, Cond.instanceMethod yX2_earthByColumns, Cond.selects RX2 yX2_earthByColumns yX2_earthByColumns, Cond.code yX2_earthByColumns cX2_earthByColumns 3 (some .int), Cond.methodLink RX2 55 yX2_requireSpan, Cond.instanceMethod yX2_requireSpan, Cond.selects RX2 yX2_requireSpan yX2_requireSpan, Cond.code yX2_requireSpan cX2_requireSpan 3 none, Cond.methodLink RX2 68 yX1_earthAbove, Cond.instanceMethod yX1_earthAbove, Cond.selects RX1 yX1_earthAbove yX1_earthAbove, Cond.code yX1_earthAbove cX1_earthAbove 6 (some .int), Cond.methodLink RX1 31 Lib.Math.max.name, Cond.methodLink RL 59 yX2_earth, Cond.instanceMethod yX2_earth, Cond.selects RX2 yX2_earth yX2_earth, Cond.code yX2_earth cX2_earth 3 (some .int), Cond.methodLink RX2 64 yX0_askSum, Cond.instanceMethod yX0_askSum, Cond.selects RX0 yX0_askSum yX0_askSum, Cond.code yX0_askSum cX0_askSum 3 (some .int)]
def wsL_law0_r10 : List Cond := [Cond.methodLink RX0 58 yX0_sumFrom, Cond.instanceMethod yX0_sumFrom, Cond.selects RX0 yX0_sumFrom yX0_sumFrom, Cond.code yX0_sumFrom cX0_sumFrom 4 (some .int), Cond.methodLink RX0 88 yX0_isWithin, Cond.instanceMethod yX0_isWithin, Cond.selects RX0 yX0_isWithin yX0_isWithin, Cond.code yX0_isWithin cX0_isWithin 4 (some .boolean), Cond.methodLink RL 62 yX2_top, Cond.instanceMethod yX2_top, Cond.selects RX2 yX2_top yX2_top, Cond.code yX2_top cX2_top 3 (some .int), Cond.methodLink RX2 71 yX0_askGreatest, Cond.instanceMethod yX0_askGreatest, Cond.selects RX0 yX0_askGreatest yX0_askGreatest, Cond.code yX0_askGreatest cX0_askGreatest 3 (some .int), Cond.methodLink RX0 62 yX0_greatestFrom, Cond.instanceMethod yX0_greatestFrom, Cond.selects RX0 yX0_greatestFrom yX0_greatestFrom, Cond.code yX0_greatestFrom cX0_greatestFrom 4 (some .int), Cond.methodLink RL 65 yX2_ceilingFor, Cond.instanceMethod yX2_ceilingFor, Cond.selects RX2 yX2_ceilingFor yX2_ceilingFor, Cond.code yX2_ceilingFor cX2_ceilingFor 5 (some .int)]
def wsL_law0_r11 : List Cond := [Cond.classLink RX2 82 "java/util/NoSuchElementException", Cond.initialized "java/util/NoSuchElementException", Cond.constant RX2 78 (64000), Cond.methodLink RX2 79 yX1_highestCeilingFor, Cond.instanceMethod yX1_highestCeilingFor, Cond.selects RX1 yX1_highestCeilingFor yX1_highestCeilingFor, Cond.code yX1_highestCeilingFor cX1_highestCeilingFor 6 (some .int), Cond.methodLink RX1 34 yX1_earthAbove, Cond.methodLink RL 69 yX2_wouldPress, Cond.instanceMethod yX2_wouldPress, Cond.selects RX2 yX2_wouldPress yX2_wouldPress, Cond.code yX2_wouldPress cX2_wouldPress 4 (some .int), Cond.methodLink RL 43 yL_isLowered, Cond.static yL_isLowered, Cond.code yL_isLowered cL_isLowered 8 (some .boolean), Cond.methodLink RL 72 yX2_lower, Cond.instanceMethod yX2_lower, Cond.selects RX2 yX2_lower yX2_lower, Cond.code yX2_lower cX2_lower 5 (some .int), Cond.methodLink RX2 58 yX0_press, Cond.instanceMethod yX0_press, Cond.selects RX0 yX0_press yX0_press, Cond.code yX0_press cX0_press 5 (some .int), Cond.methodLink RX0 51 yX0_pressFrom]
def wsL_law0_r12 : List Cond := [Cond.instanceMethod yX0_pressFrom, Cond.selects RX0 yX0_pressFrom yX0_pressFrom, Cond.code yX0_pressFrom cX0_pressFrom 6 none, Cond.methodLink RX2 62 yX1_press, Cond.instanceMethod yX1_press, Cond.selects RX1 yX1_press yX1_press, Cond.code yX1_press cX1_press 5 none, Cond.methodLink RX1 25 Lib.Math.min.name, Cond.methodLink RL 75 yX2_ceilingOver, Cond.instanceMethod yX2_ceilingOver, Cond.selects RX2 yX2_ceilingOver yX2_ceilingOver, Cond.code yX2_ceilingOver cX2_ceilingOver 3 (some .int), Cond.methodLink RL 108 yL_isSo, Cond.static yL_isSo, Cond.code yL_isSo cL_isSo 4 (some .boolean), Cond.methodLink RL 84 yX2_noted, Cond.instanceMethod yX2_noted, Cond.selects RX2 yX2_noted yX2_noted, Cond.code yX2_noted cX2_noted 2 (some .int), Cond.methodLink RX2 95 yX2_requireEntry, Cond.instanceMethod yX2_requireEntry, Cond.selects RX2 yX2_requireEntry yX2_requireEntry, Cond.code yX2_requireEntry cX2_requireEntry 2 none, Cond.methodLink RX2 142 yX0_has]
def wsL_law0_r13 : List Cond := [Cond.methodLink RL 78 yX2_greatest, Cond.instanceMethod yX2_greatest, Cond.selects RX2 yX2_greatest yX2_greatest, Cond.code yX2_greatest cX2_greatest 2 (some .int), Cond.methodLink RL 93 yX2_pressedAwayByRest, Cond.instanceMethod yX2_pressedAwayByRest, Cond.selects RX2 yX2_pressedAwayByRest yX2_pressedAwayByRest, Cond.code yX2_pressedAwayByRest cX2_pressedAwayByRest 1 (some .int), Cond.methodLink RL 96 yX2_meanVisits, Cond.instanceMethod yX2_meanVisits, Cond.selects RX2 yX2_meanVisits yX2_meanVisits, Cond.code yX2_meanVisits cX2_meanVisits 1 (some .double), Cond.methodLink RL 112 yL_isEntrySo, Cond.static yL_isEntrySo, Cond.code yL_isEntrySo cL_isEntrySo 14 (some .boolean), Cond.methodLink RL 81 yX2_spanOf, Cond.instanceMethod yX2_spanOf, Cond.selects RX2 yX2_spanOf yX2_spanOf, Cond.code yX2_spanOf cX2_spanOf 2 (some .int), Cond.methodLink RL 87 yX2_second, Cond.instanceMethod yX2_second, Cond.selects RX2 yX2_second yX2_second, Cond.code yX2_second cX2_second 2 (some .int), Cond.methodLink RL 90 yX2_many]
def wsL_law0_r14 : List Cond := [Cond.instanceMethod yX2_many, Cond.selects RX2 yX2_many yX2_many, Cond.code yX2_many cX2_many 2 (some .int)]
def wsL_law0 : List Cond := (wsL_law0_r1 ++ (wsL_law0_r2 ++ (wsL_law0_r3 ++ (wsL_law0_r4 ++ (wsL_law0_r5 ++ (wsL_law0_r6 ++ (wsL_law0_r7 ++ (wsL_law0_r8 ++ (wsL_law0_r9 ++ (wsL_law0_r10 ++ (wsL_law0_r11 ++ (wsL_law0_r12 ++ (wsL_law0_r13 ++ wsL_law0_r14))))))))))))) ++ wsX20 ++ wsX00 ++ wsX10 ++ ([] : List Cond)
def wsL_law : List Cond := wsL_law0
theorem dJ9_max_7cf53_0 : decode cJ9_max_7cf53 0 = .ok (.iload_n 0, 1) := by decide +kernel
theorem dJ9_max_7cf53_1 : decode cJ9_max_7cf53 1 = .ok (.iload_n 1, 1) := by decide +kernel
theorem dJ9_max_7cf53_2 : decode cJ9_max_7cf53 2 = .ok (.if_icmp .lt 7, 3) := by decide +kernel
theorem dJ9_max_7cf53_5 : decode cJ9_max_7cf53 5 = .ok (.iload_n 0, 1) := by decide +kernel
theorem dJ9_max_7cf53_6 : decode cJ9_max_7cf53 6 = .ok (.goto 4, 3) := by decide +kernel
theorem dJ9_max_7cf53_9 : decode cJ9_max_7cf53 9 = .ok (.iload_n 1, 1) := by decide +kernel
theorem dJ9_max_7cf53_10 : decode cJ9_max_7cf53 10 = .ok (.ireturn, 1) := by decide +kernel
theorem dJ9_min_7cf53_0 : decode cJ9_min_7cf53 0 = .ok (.iload_n 0, 1) := by decide +kernel
theorem dJ9_min_7cf53_1 : decode cJ9_min_7cf53 1 = .ok (.iload_n 1, 1) := by decide +kernel
theorem dJ9_min_7cf53_2 : decode cJ9_min_7cf53 2 = .ok (.if_icmp .gt 7, 3) := by decide +kernel
theorem dJ9_min_7cf53_5 : decode cJ9_min_7cf53 5 = .ok (.iload_n 0, 1) := by decide +kernel
theorem dJ9_min_7cf53_6 : decode cJ9_min_7cf53 6 = .ok (.goto 4, 3) := by decide +kernel
theorem dJ9_min_7cf53_9 : decode cJ9_min_7cf53 9 = .ok (.iload_n 1, 1) := by decide +kernel
theorem dJ9_min_7cf53_10 : decode cJ9_min_7cf53 10 = .ok (.ireturn, 1) := by decide +kernel
abbrev vwCl : List vw_C := [(RX0, TX0, 9), (RX1, TX1, 4), (RX2, TX2, 3)]
end
section
set_option maxRecDepth 20000 in
theorem lwin_wsL_law0_r1 : GoodIn lw_tbl wsL_law0_r1 := goodIn_r _ [34, 35, 23, 36, 37, 38, 39, 40, 41, 42, 43, 24, 129, 86, 87, 25, 130, 131, 45, 46, 47, 85, 48, 50] (by decide +kernel) (by decide +kernel)
set_option maxRecDepth 20000 in
theorem lwin_wsL_law0_r2 : GoodIn lw_tbl wsL_law0_r2 := goodIn_r _ [52, 54, 56, 58, 89, 90, 91, 92, 94, 109, 110, 111, 112, 60, 62, 64, 113, 115, 0, 116, 117, 119, 1, 120] (by decide +kernel) (by decide +kernel)
set_option maxRecDepth 20000 in
theorem lwin_wsL_law0_r3 : GoodIn lw_tbl wsL_law0_r3 := goodIn_r _ [121, 123, 2, 124, 125, 126, 127, 128, 96, 98, 219, 220, 22, 221, 222, 223, 224, 225, 139, 140, 141, 142, 143, 144] (by decide +kernel) (by decide +kernel)
set_option maxRecDepth 20000 in
theorem lwin_wsL_law0_r4 : GoodIn lw_tbl wsL_law0_r4 := goodIn_r _ [145, 146, 29, 226, 227, 228, 215, 216, 217, 218, 229, 230, 231, 232, 233, 234, 235, 236, 237, 238, 239, 240, 241, 242] (by decide +kernel) (by decide +kernel)
set_option maxRecDepth 20000 in
theorem lwin_wsL_law0_r5 : GoodIn lw_tbl wsL_law0_r5 := goodIn_r _ [243, 244, 245, 246, 247, 248, 249, 251, 4, 252, 253, 254, 255, 256, 257, 258, 259, 260, 261, 262, 263, 264, 266, 5] (by decide +kernel) (by decide +kernel)
set_option maxRecDepth 20000 in
theorem lwin_wsL_law0_r6 : GoodIn lw_tbl wsL_law0_r6 := goodIn_r _ [267, 268, 30, 284, 285, 286, 287, 292, 293, 31, 294, 288, 290, 6, 291, 295, 296, 297, 298, 299, 300, 301, 302, 303] (by decide +kernel) (by decide +kernel)
set_option maxRecDepth 20000 in
theorem lwin_wsL_law0_r7 : GoodIn lw_tbl wsL_law0_r7 := goodIn_r _ [32, 319, 320, 321, 322, 323, 324, 325, 326, 327, 329, 7, 330, 331, 333, 8, 334, 335, 337, 9, 338, 339, 341, 10] (by decide +kernel) (by decide +kernel)
set_option maxRecDepth 20000 in
theorem lwin_wsL_law0_r8 : GoodIn lw_tbl wsL_law0_r8 := goodIn_r _ [342, 343, 345, 11, 346, 347, 349, 12, 350, 351, 353, 13, 354, 355, 356, 357, 358, 360, 14, 361, 362, 364, 15, 365] (by decide +kernel) (by decide +kernel)
set_option maxRecDepth 20000 in
theorem lwin_wsL_law0_r9 : GoodIn lw_tbl wsL_law0_r9 := goodIn_r _ [366, 367, 368, 369, 370, 371, 372, 373, 375, 16, 376, 378, 379, 380, 381, 382, 383, 384, 385, 386, 387, 388, 389, 390] (by decide +kernel) (by decide +kernel)
set_option maxRecDepth 20000 in
theorem lwin_wsL_law0_r10 : GoodIn lw_tbl wsL_law0_r10 := goodIn_r _ [391, 393, 17, 394, 395, 397, 18, 398, 399, 400, 401, 402, 403, 404, 405, 406, 407, 409, 19, 410, 411, 412, 413, 414] (by decide +kernel) (by decide +kernel)
set_option maxRecDepth 20000 in
theorem lwin_wsL_law0_r11 : GoodIn lw_tbl wsL_law0_r11 := goodIn_r _ [421, 33, 415, 416, 417, 418, 419, 420, 437, 438, 439, 440, 441, 442, 443, 444, 445, 446, 447, 448, 449, 450, 451, 452] (by decide +kernel) (by decide +kernel)
set_option maxRecDepth 20000 in
theorem lwin_wsL_law0_r12 : GoodIn lw_tbl wsL_law0_r12 := goodIn_r _ [454, 20, 455, 456, 457, 458, 459, 460, 461, 462, 463, 464, 495, 496, 497, 483, 484, 485, 486, 473, 475, 21, 476, 477] (by decide +kernel) (by decide +kernel)
set_option maxRecDepth 20000 in
theorem lwin_wsL_law0_r13 : GoodIn lw_tbl wsL_law0_r13 := goodIn_r _ [469, 470, 471, 472, 498, 499, 500, 501, 502, 503, 504, 505, 466, 467, 468, 479, 480, 481, 482, 487, 488, 489, 490, 491] (by decide +kernel) (by decide +kernel)
set_option maxRecDepth 20000 in
theorem lwin_wsL_law0_r14 : GoodIn lw_tbl wsL_law0_r14 := goodIn_r _ [492, 493, 494] (by decide +kernel) (by decide +kernel)
theorem lwin_wsX00 : GoodIn lw_tbl wsX00 := goodIn_sub (by decide +kernel) (by decide +kernel)
theorem lwin_wsX10 : GoodIn lw_tbl wsX10 := goodIn_sub (by decide +kernel) (by decide +kernel)
theorem lwin_wsX20 : GoodIn lw_tbl wsX20 := goodIn_sub (by decide +kernel) (by decide +kernel)
theorem lwin_wsX30 : GoodIn lw_tbl wsX30 := goodIn_sub (by decide +kernel) (by decide +kernel)
theorem wsL_law_good0 : GoodIn lw_tbl wsL_law0 := goodIn_app (goodIn_app (goodIn_app (goodIn_app (goodIn_app lwin_wsL_law0_r1 (goodIn_app lwin_wsL_law0_r2 (goodIn_app lwin_wsL_law0_r3 (goodIn_app lwin_wsL_law0_r4 (goodIn_app lwin_wsL_law0_r5 (goodIn_app lwin_wsL_law0_r6 (goodIn_app lwin_wsL_law0_r7 (goodIn_app lwin_wsL_law0_r8 (goodIn_app lwin_wsL_law0_r9 (goodIn_app lwin_wsL_law0_r10 (goodIn_app lwin_wsL_law0_r11 (goodIn_app lwin_wsL_law0_r12 (goodIn_app lwin_wsL_law0_r13 (lwin_wsL_law0_r14)))))))))))))) lwin_wsX20) lwin_wsX00) lwin_wsX10) (fun _ h => nomatch h)
theorem wsL_law_in0 : ∀ w ∈ wsL_law0, w ∈ lw_tbl := fun w h => (wsL_law_good0 w h).1
end
section
theorem wsL_law_in : ∀ w ∈ wsL_law, w ∈ lw_tbl := wsL_law_in0
theorem inlX0 : ∀ w ∈ wsX00, w ∈ wsL_law := by decide +kernel
theorem inX0 : ∀ w ∈ wsX00, w ∈ lw_tbl := fun w h => wsL_law_in w (inlX0 w h)
theorem inlX1 : ∀ w ∈ wsX10, w ∈ wsL_law := by decide +kernel
theorem inX1 : ∀ w ∈ wsX10, w ∈ lw_tbl := fun w h => wsL_law_in w (inlX1 w h)
theorem inlX2 : ∀ w ∈ wsX20, w ∈ wsL_law := by decide +kernel
theorem inX2 : ∀ w ∈ wsX20, w ∈ lw_tbl := fun w h => wsL_law_in w (inlX2 w h)
theorem inX3 : ∀ w ∈ wsX30, w ∈ lw_tbl := by decide +kernel
theorem inJx145de : ∀ w ∈ wsJx145de0, w ∈ lw_tbl := by decide +kernel
theorem inJ9 : ∀ w ∈ wsJ90, w ∈ lw_tbl := by decide +kernel
theorem inJ0 : ∀ w ∈ wsJ00, w ∈ lw_tbl := by decide +kernel
end
section
theorem dX0_init_0 : decode cX0_init 0 = .ok (.aload_n 0, 1) := by decide +kernel
theorem dX0_init_1 : decode cX0_init 1 = .ok (.invokespecial 3, 3) := by decide +kernel
theorem dX0_init_4 : decode cX0_init 4 = .ok (.aload_n 0, 1) := by decide +kernel
theorem dX0_init_5 : decode cX0_init 5 = .ok (.sipush 128, 3) := by decide +kernel
theorem dX0_init_8 : decode cX0_init 8 = .ok (.newarray .int, 2) := by decide +kernel
theorem dX0_init_10 : decode cX0_init 10 = .ok (.putfield 11, 3) := by decide +kernel
theorem dX0_init_13 : decode cX0_init 13 = .ok (.aload_n 0, 1) := by decide +kernel
theorem dX0_init_14 : decode cX0_init 14 = .ok (.sipush 128, 3) := by decide +kernel
theorem dX0_init_17 : decode cX0_init 17 = .ok (.newarray .int, 2) := by decide +kernel
theorem dX0_init_19 : decode cX0_init 19 = .ok (.putfield 15, 3) := by decide +kernel
theorem dX0_init_22 : decode cX0_init 22 = .ok (.aload_n 0, 1) := by decide +kernel
theorem dX0_init_23 : decode cX0_init 23 = .ok (.sipush 128, 3) := by decide +kernel
theorem dX0_init_26 : decode cX0_init 26 = .ok (.newarray .int, 2) := by decide +kernel
theorem dX0_init_28 : decode cX0_init 28 = .ok (.putfield 18, 3) := by decide +kernel
theorem dX0_init_31 : decode cX0_init 31 = .ok (.aload_n 0, 1) := by decide +kernel
theorem dX0_init_32 : decode cX0_init 32 = .ok (.sipush 128, 3) := by decide +kernel
theorem dX0_init_35 : decode cX0_init 35 = .ok (.newarray .int, 2) := by decide +kernel
theorem dX0_init_37 : decode cX0_init 37 = .ok (.putfield 21, 3) := by decide +kernel
theorem dX0_init_40 : decode cX0_init 40 = .ok (.aload_n 0, 1) := by decide +kernel
theorem dX0_init_41 : decode cX0_init 41 = .ok (.sipush 128, 3) := by decide +kernel
theorem dX0_init_44 : decode cX0_init 44 = .ok (.newarray .int, 2) := by decide +kernel
theorem dX0_init_46 : decode cX0_init 46 = .ok (.putfield 24, 3) := by decide +kernel
theorem dX0_init_49 : decode cX0_init 49 = .ok (.aload_n 0, 1) := by decide +kernel
theorem dX0_init_50 : decode cX0_init 50 = .ok (.sipush 128, 3) := by decide +kernel
theorem dX0_init_53 : decode cX0_init 53 = .ok (.newarray .int, 2) := by decide +kernel
theorem dX0_init_55 : decode cX0_init 55 = .ok (.putfield 27, 3) := by decide +kernel
theorem dX0_init_58 : decode cX0_init 58 = .ok (.return_, 1) := by decide +kernel
set_option maxRecDepth 20000 in
theorem ggX0_renew_X0_setSpan : GoodIn wsX0_renew wsX0_setSpan := goodIn_r _ [14, 2, 1, 23, 24, 25, 26, 27, 28, 29, 30, 31] (by decide +kernel) (by decide +kernel)
set_option maxRecDepth 20000 in
theorem gX0_renew_X0_setSpan : GoodIn wsX0_renew (wsV RX0 30 RX0 yX0_setSpan wsX0_setSpan) := goodIn_app (goodIn_of _ (by decide +kernel)) ggX0_renew_X0_setSpan
set_option maxRecDepth 20000 in
theorem ggX0_renew_X0_splitSpan : GoodIn wsX0_renew wsX0_splitSpan := goodIn_r _ [18, 2, 1, 19, 20, 21, 13, 22, 10, 11, 12, 14, 23, 24, 25, 26, 27, 28, 29, 30, 31] (by decide +kernel) (by decide +kernel)
set_option maxRecDepth 20000 in
theorem gX0_renew_X0_splitSpan : GoodIn wsX0_renew (wsV RX0 34 RX0 yX0_splitSpan wsX0_splitSpan) := goodIn_app (goodIn_of _ (by decide +kernel)) ggX0_renew_X0_splitSpan
theorem dX0_renew_0 : decode cX0_renew 0 = .ok (.aload_n 0, 1) := by decide +kernel
theorem dX0_renew_1 : decode cX0_renew 1 = .ok (.iconst 1, 1) := by decide +kernel
theorem dX0_renew_2 : decode cX0_renew 2 = .ok (.iconst 0, 1) := by decide +kernel
theorem dX0_renew_3 : decode cX0_renew 3 = .ok (.iload_n 1, 1) := by decide +kernel
theorem dX0_renew_4 : decode cX0_renew 4 = .ok (.iconst 1, 1) := by decide +kernel
theorem dX0_renew_5 : decode cX0_renew 5 = .ok (.isub, 1) := by decide +kernel
theorem dX0_renew_6 : decode cX0_renew 6 = .ok (.invokevirtual 30, 3) := by decide +kernel
theorem dX0_renew_9 : decode cX0_renew 9 = .ok (.iconst 1, 1) := by decide +kernel
theorem dX0_renew_10 : decode cX0_renew 10 = .ok (.istore_n 3, 1) := by decide +kernel
theorem dX0_renew_11 : decode cX0_renew 11 = .ok (.iload_n 3, 1) := by decide +kernel
theorem dX0_renew_12 : decode cX0_renew 12 = .ok (.bipush 64, 2) := by decide +kernel
theorem dX0_renew_14 : decode cX0_renew 14 = .ok (.if_icmp .ge 14, 3) := by decide +kernel
theorem dX0_renew_17 : decode cX0_renew 17 = .ok (.aload_n 0, 1) := by decide +kernel
theorem dX0_renew_18 : decode cX0_renew 18 = .ok (.iload_n 3, 1) := by decide +kernel
theorem dX0_renew_19 : decode cX0_renew 19 = .ok (.invokevirtual 34, 3) := by decide +kernel
theorem dX0_renew_22 : decode cX0_renew 22 = .ok (.iinc 3 1, 3) := by decide +kernel
theorem dX0_renew_25 : decode cX0_renew 25 = .ok (.goto (-14), 3) := by decide +kernel
theorem dX0_renew_28 : decode cX0_renew 28 = .ok (.iconst 1, 1) := by decide +kernel
theorem dX0_renew_29 : decode cX0_renew 29 = .ok (.istore_n 3, 1) := by decide +kernel
theorem dX0_renew_30 : decode cX0_renew 30 = .ok (.iload_n 3, 1) := by decide +kernel
theorem dX0_renew_31 : decode cX0_renew 31 = .ok (.sipush 128, 3) := by decide +kernel
theorem dX0_renew_34 : decode cX0_renew 34 = .ok (.if_icmp .ge 58, 3) := by decide +kernel
theorem dX0_renew_37 : decode cX0_renew 37 = .ok (.aload_n 0, 1) := by decide +kernel
theorem dX0_renew_38 : decode cX0_renew 38 = .ok (.getfield 15, 3) := by decide +kernel
theorem dX0_renew_41 : decode cX0_renew 41 = .ok (.iload_n 3, 1) := by decide +kernel
theorem dX0_renew_42 : decode cX0_renew 42 = .ok (.iaload, 1) := by decide +kernel
theorem dX0_renew_43 : decode cX0_renew 43 = .ok (.aload_n 0, 1) := by decide +kernel
theorem dX0_renew_44 : decode cX0_renew 44 = .ok (.getfield 11, 3) := by decide +kernel
theorem dX0_renew_47 : decode cX0_renew 47 = .ok (.iload_n 3, 1) := by decide +kernel
theorem dX0_renew_48 : decode cX0_renew 48 = .ok (.iaload, 1) := by decide +kernel
theorem dX0_renew_49 : decode cX0_renew 49 = .ok (.isub, 1) := by decide +kernel
theorem dX0_renew_50 : decode cX0_renew 50 = .ok (.iconst 1, 1) := by decide +kernel
theorem dX0_renew_51 : decode cX0_renew 51 = .ok (.iadd, 1) := by decide +kernel
theorem dX0_renew_52 : decode cX0_renew 52 = .ok (.istore 4, 2) := by decide +kernel
theorem dX0_renew_54 : decode cX0_renew 54 = .ok (.aload_n 0, 1) := by decide +kernel
theorem dX0_renew_55 : decode cX0_renew 55 = .ok (.getfield 18, 3) := by decide +kernel
theorem dX0_renew_58 : decode cX0_renew 58 = .ok (.iload_n 3, 1) := by decide +kernel
theorem dX0_renew_59 : decode cX0_renew 59 = .ok (.iload_n 2, 1) := by decide +kernel
theorem dX0_renew_60 : decode cX0_renew 60 = .ok (.iastore, 1) := by decide +kernel
theorem dX0_renew_61 : decode cX0_renew 61 = .ok (.aload_n 0, 1) := by decide +kernel
theorem dX0_renew_62 : decode cX0_renew 62 = .ok (.getfield 21, 3) := by decide +kernel
theorem dX0_renew_65 : decode cX0_renew 65 = .ok (.iload_n 3, 1) := by decide +kernel
theorem dX0_renew_66 : decode cX0_renew 66 = .ok (.iconst (-1), 1) := by decide +kernel
theorem dX0_renew_67 : decode cX0_renew 67 = .ok (.iastore, 1) := by decide +kernel
theorem dX0_renew_68 : decode cX0_renew 68 = .ok (.aload_n 0, 1) := by decide +kernel
theorem dX0_renew_69 : decode cX0_renew 69 = .ok (.getfield 24, 3) := by decide +kernel
theorem dX0_renew_72 : decode cX0_renew 72 = .ok (.iload_n 3, 1) := by decide +kernel
theorem dX0_renew_73 : decode cX0_renew 73 = .ok (.iload 4, 2) := by decide +kernel
theorem dX0_renew_75 : decode cX0_renew 75 = .ok (.iastore, 1) := by decide +kernel
theorem dX0_renew_76 : decode cX0_renew 76 = .ok (.aload_n 0, 1) := by decide +kernel
theorem dX0_renew_77 : decode cX0_renew 77 = .ok (.getfield 27, 3) := by decide +kernel
theorem dX0_renew_80 : decode cX0_renew 80 = .ok (.iload_n 3, 1) := by decide +kernel
theorem dX0_renew_81 : decode cX0_renew 81 = .ok (.iload 4, 2) := by decide +kernel
theorem dX0_renew_83 : decode cX0_renew 83 = .ok (.iload_n 2, 1) := by decide +kernel
theorem dX0_renew_84 : decode cX0_renew 84 = .ok (.imul, 1) := by decide +kernel
theorem dX0_renew_85 : decode cX0_renew 85 = .ok (.iastore, 1) := by decide +kernel
theorem dX0_renew_86 : decode cX0_renew 86 = .ok (.iinc 3 1, 3) := by decide +kernel
theorem dX0_renew_89 : decode cX0_renew 89 = .ok (.goto (-59), 3) := by decide +kernel
theorem dX0_renew_92 : decode cX0_renew 92 = .ok (.aload_n 0, 1) := by decide +kernel
theorem dX0_renew_93 : decode cX0_renew 93 = .ok (.iconst 0, 1) := by decide +kernel
theorem dX0_renew_94 : decode cX0_renew 94 = .ok (.putfield 38, 3) := by decide +kernel
theorem dX0_renew_97 : decode cX0_renew 97 = .ok (.aload_n 0, 1) := by decide +kernel
theorem dX0_renew_98 : decode cX0_renew 98 = .ok (.iconst 0, 1) := by decide +kernel
theorem dX0_renew_99 : decode cX0_renew 99 = .ok (.putfield 42, 3) := by decide +kernel
theorem dX0_renew_102 : decode cX0_renew 102 = .ok (.aload_n 0, 1) := by decide +kernel
theorem dX0_renew_103 : decode cX0_renew 103 = .ok (.iconst 0, 1) := by decide +kernel
theorem dX0_renew_104 : decode cX0_renew 104 = .ok (.putfield 45, 3) := by decide +kernel
theorem dX0_renew_107 : decode cX0_renew 107 = .ok (.return_, 1) := by decide +kernel
theorem dX0_has_0 : decode cX0_has 0 = .ok (.iload_n 1, 1) := by decide +kernel
theorem dX0_has_1 : decode cX0_has 1 = .ok (.iconst 1, 1) := by decide +kernel
theorem dX0_has_2 : decode cX0_has 2 = .ok (.if_icmp .lt 24, 3) := by decide +kernel
theorem dX0_has_5 : decode cX0_has 5 = .ok (.iload_n 1, 1) := by decide +kernel
theorem dX0_has_6 : decode cX0_has 6 = .ok (.sipush 128, 3) := by decide +kernel
theorem dX0_has_9 : decode cX0_has 9 = .ok (.if_icmp .ge 17, 3) := by decide +kernel
theorem dX0_has_12 : decode cX0_has 12 = .ok (.aload_n 0, 1) := by decide +kernel
theorem dX0_has_13 : decode cX0_has 13 = .ok (.getfield 15, 3) := by decide +kernel
theorem dX0_has_16 : decode cX0_has 16 = .ok (.iload_n 1, 1) := by decide +kernel
theorem dX0_has_17 : decode cX0_has 17 = .ok (.iaload, 1) := by decide +kernel
theorem dX0_has_18 : decode cX0_has 18 = .ok (.iconst (-1), 1) := by decide +kernel
theorem dX0_has_19 : decode cX0_has 19 = .ok (.if_icmp .eq 7, 3) := by decide +kernel
theorem dX0_has_22 : decode cX0_has 22 = .ok (.iconst 1, 1) := by decide +kernel
theorem dX0_has_23 : decode cX0_has 23 = .ok (.goto 4, 3) := by decide +kernel
theorem dX0_has_26 : decode cX0_has 26 = .ok (.iconst 0, 1) := by decide +kernel
theorem dX0_has_27 : decode cX0_has 27 = .ok (.ireturn, 1) := by decide +kernel
set_option maxRecDepth 20000 in
theorem ggX0_press_X0_beginCall : GoodIn wsX0_press wsX0_beginCall := goodIn_r _ [6, 7, 8, 67, 68, 69, 70, 71, 72, 73, 74, 75] (by decide +kernel) (by decide +kernel)
set_option maxRecDepth 20000 in
theorem gX0_press_X0_beginCall : GoodIn wsX0_press (wsV RX0 48 RX0 yX0_beginCall wsX0_beginCall) := goodIn_app (goodIn_of _ (by decide +kernel)) ggX0_press_X0_beginCall
set_option maxRecDepth 20000 in
theorem ggX0_press_X0_pressFrom : GoodIn wsX0_press wsX0_pressFrom := goodIn_r _ [12, 13, 14, 15, 16, 17, 5, 18, 8, 19, 20, 21, 22, 23, 24, 25, 26, 27, 28, 29, 30, 31, 32, 33, 34, 35, 36, 37, 1, 38, 39, 40, 41, 42, 43, 44, 45, 46, 47, 48, 49, 50, 9, 10, 11, 51, 52, 53, 54, 55, 56, 57, 58, 59, 60, 61, 62, 63, 64, 65, 66, 67, 68, 69, 70, 71, 72, 73, 74, 75] (by decide +kernel) (by decide +kernel)
set_option maxRecDepth 20000 in
theorem gX0_press_X0_pressFrom : GoodIn wsX0_press (wsV RX0 51 RX0 yX0_pressFrom wsX0_pressFrom) := goodIn_app (goodIn_of _ (by decide +kernel)) ggX0_press_X0_pressFrom
theorem dX0_press_0 : decode cX0_press 0 = .ok (.aload_n 0, 1) := by decide +kernel
theorem dX0_press_1 : decode cX0_press 1 = .ok (.invokevirtual 48, 3) := by decide +kernel
theorem dX0_press_4 : decode cX0_press 4 = .ok (.aload_n 0, 1) := by decide +kernel
theorem dX0_press_5 : decode cX0_press 5 = .ok (.getfield 27, 3) := by decide +kernel
theorem dX0_press_8 : decode cX0_press 8 = .ok (.iconst 1, 1) := by decide +kernel
theorem dX0_press_9 : decode cX0_press 9 = .ok (.iaload, 1) := by decide +kernel
theorem dX0_press_10 : decode cX0_press 10 = .ok (.istore 4, 2) := by decide +kernel
theorem dX0_press_12 : decode cX0_press 12 = .ok (.aload_n 0, 1) := by decide +kernel
theorem dX0_press_13 : decode cX0_press 13 = .ok (.iconst 1, 1) := by decide +kernel
theorem dX0_press_14 : decode cX0_press 14 = .ok (.iload_n 1, 1) := by decide +kernel
theorem dX0_press_15 : decode cX0_press 15 = .ok (.iload_n 2, 1) := by decide +kernel
theorem dX0_press_16 : decode cX0_press 16 = .ok (.iload_n 3, 1) := by decide +kernel
theorem dX0_press_17 : decode cX0_press 17 = .ok (.invokevirtual 51, 3) := by decide +kernel
theorem dX0_press_20 : decode cX0_press 20 = .ok (.iload 4, 2) := by decide +kernel
theorem dX0_press_22 : decode cX0_press 22 = .ok (.aload_n 0, 1) := by decide +kernel
theorem dX0_press_23 : decode cX0_press 23 = .ok (.getfield 27, 3) := by decide +kernel
theorem dX0_press_26 : decode cX0_press 26 = .ok (.iconst 1, 1) := by decide +kernel
theorem dX0_press_27 : decode cX0_press 27 = .ok (.iaload, 1) := by decide +kernel
theorem dX0_press_28 : decode cX0_press 28 = .ok (.isub, 1) := by decide +kernel
theorem dX0_press_29 : decode cX0_press 29 = .ok (.ireturn, 1) := by decide +kernel
set_option maxRecDepth 20000 in
theorem ggX0_raise_X0_beginCall : GoodIn wsX0_raise wsX0_beginCall := goodIn_r _ [5, 6, 7, 59, 60, 61, 62, 63, 64, 65, 66, 67] (by decide +kernel) (by decide +kernel)
set_option maxRecDepth 20000 in
theorem gX0_raise_X0_beginCall : GoodIn wsX0_raise (wsV RX0 48 RX0 yX0_beginCall wsX0_beginCall) := goodIn_app (goodIn_of _ (by decide +kernel)) ggX0_raise_X0_beginCall
set_option maxRecDepth 20000 in
theorem ggX0_raise_X0_raiseFrom : GoodIn wsX0_raise wsX0_raiseFrom := goodIn_r _ [11, 12, 13, 14, 15, 16, 17, 4, 18, 7, 19, 20, 21, 22, 23, 24, 25, 26, 27, 28, 29, 30, 31, 32, 33, 34, 35, 36, 37, 38, 39, 40, 41, 8, 9, 10, 42, 43, 44, 45, 46, 47, 48, 49, 50, 51, 52, 53, 54, 55, 56, 57, 58, 59, 60, 61, 62, 63, 64, 65, 66, 67] (by decide +kernel) (by decide +kernel)
set_option maxRecDepth 20000 in
theorem gX0_raise_X0_raiseFrom : GoodIn wsX0_raise (wsV RX0 55 RX0 yX0_raiseFrom wsX0_raiseFrom) := goodIn_app (goodIn_of _ (by decide +kernel)) ggX0_raise_X0_raiseFrom
theorem dX0_raise_0 : decode cX0_raise 0 = .ok (.aload_n 0, 1) := by decide +kernel
theorem dX0_raise_1 : decode cX0_raise 1 = .ok (.invokevirtual 48, 3) := by decide +kernel
theorem dX0_raise_4 : decode cX0_raise 4 = .ok (.aload_n 0, 1) := by decide +kernel
theorem dX0_raise_5 : decode cX0_raise 5 = .ok (.iconst 1, 1) := by decide +kernel
theorem dX0_raise_6 : decode cX0_raise 6 = .ok (.iload_n 1, 1) := by decide +kernel
theorem dX0_raise_7 : decode cX0_raise 7 = .ok (.iload_n 2, 1) := by decide +kernel
theorem dX0_raise_8 : decode cX0_raise 8 = .ok (.invokevirtual 55, 3) := by decide +kernel
theorem dX0_raise_11 : decode cX0_raise 11 = .ok (.return_, 1) := by decide +kernel
set_option maxRecDepth 20000 in
theorem ggX0_askSum_X0_beginCall : GoodIn wsX0_askSum wsX0_beginCall := goodIn_r _ [5, 6, 7, 50, 51, 52, 53, 54, 55, 56, 57, 58] (by decide +kernel) (by decide +kernel)
set_option maxRecDepth 20000 in
theorem gX0_askSum_X0_beginCall : GoodIn wsX0_askSum (wsV RX0 48 RX0 yX0_beginCall wsX0_beginCall) := goodIn_app (goodIn_of _ (by decide +kernel)) ggX0_askSum_X0_beginCall
set_option maxRecDepth 20000 in
theorem ggX0_askSum_X0_sumFrom : GoodIn wsX0_askSum wsX0_sumFrom := goodIn_r _ [11, 12, 13, 14, 15, 4, 16, 7, 17, 18, 19, 20, 21, 22, 23, 24, 25, 26, 27, 28, 29, 30, 31, 32, 33, 34, 35, 36, 37, 38, 39, 40, 41, 42, 43, 44, 45, 46, 47, 48, 49, 8, 9, 10, 50, 51, 52, 53, 54, 55, 56, 57, 58] (by decide +kernel) (by decide +kernel)
set_option maxRecDepth 20000 in
theorem gX0_askSum_X0_sumFrom : GoodIn wsX0_askSum (wsV RX0 58 RX0 yX0_sumFrom wsX0_sumFrom) := goodIn_app (goodIn_of _ (by decide +kernel)) ggX0_askSum_X0_sumFrom
theorem dX0_askSum_0 : decode cX0_askSum 0 = .ok (.aload_n 0, 1) := by decide +kernel
theorem dX0_askSum_1 : decode cX0_askSum 1 = .ok (.invokevirtual 48, 3) := by decide +kernel
theorem dX0_askSum_4 : decode cX0_askSum 4 = .ok (.aload_n 0, 1) := by decide +kernel
theorem dX0_askSum_5 : decode cX0_askSum 5 = .ok (.iconst 1, 1) := by decide +kernel
theorem dX0_askSum_6 : decode cX0_askSum 6 = .ok (.iload_n 1, 1) := by decide +kernel
theorem dX0_askSum_7 : decode cX0_askSum 7 = .ok (.iload_n 2, 1) := by decide +kernel
theorem dX0_askSum_8 : decode cX0_askSum 8 = .ok (.invokevirtual 58, 3) := by decide +kernel
theorem dX0_askSum_11 : decode cX0_askSum 11 = .ok (.ireturn, 1) := by decide +kernel
set_option maxRecDepth 20000 in
theorem ggX0_askGreatest_X0_beginCall : GoodIn wsX0_askGreatest wsX0_beginCall := goodIn_r _ [5, 6, 7, 54, 55, 56, 57, 58, 59, 60, 61, 62] (by decide +kernel) (by decide +kernel)
set_option maxRecDepth 20000 in
theorem gX0_askGreatest_X0_beginCall : GoodIn wsX0_askGreatest (wsV RX0 48 RX0 yX0_beginCall wsX0_beginCall) := goodIn_app (goodIn_of _ (by decide +kernel)) ggX0_askGreatest_X0_beginCall
set_option maxRecDepth 20000 in
theorem ggX0_askGreatest_X0_greatestFrom : GoodIn wsX0_askGreatest wsX0_greatestFrom := goodIn_r _ [11, 12, 13, 14, 15, 16, 17, 18, 19, 4, 20, 7, 21, 22, 23, 24, 25, 26, 27, 28, 29, 30, 31, 32, 33, 34, 35, 36, 37, 38, 39, 40, 41, 42, 43, 44, 45, 46, 47, 48, 49, 50, 51, 52, 53, 8, 9, 10, 54, 55, 56, 57, 58, 59, 60, 61, 62] (by decide +kernel) (by decide +kernel)
set_option maxRecDepth 20000 in
theorem gX0_askGreatest_X0_greatestFrom : GoodIn wsX0_askGreatest (wsV RX0 62 RX0 yX0_greatestFrom wsX0_greatestFrom) := goodIn_app (goodIn_of _ (by decide +kernel)) ggX0_askGreatest_X0_greatestFrom
theorem dX0_askGreatest_0 : decode cX0_askGreatest 0 = .ok (.aload_n 0, 1) := by decide +kernel
theorem dX0_askGreatest_1 : decode cX0_askGreatest 1 = .ok (.invokevirtual 48, 3) := by decide +kernel
theorem dX0_askGreatest_4 : decode cX0_askGreatest 4 = .ok (.aload_n 0, 1) := by decide +kernel
theorem dX0_askGreatest_5 : decode cX0_askGreatest 5 = .ok (.iconst 1, 1) := by decide +kernel
theorem dX0_askGreatest_6 : decode cX0_askGreatest 6 = .ok (.iload_n 1, 1) := by decide +kernel
theorem dX0_askGreatest_7 : decode cX0_askGreatest 7 = .ok (.iload_n 2, 1) := by decide +kernel
theorem dX0_askGreatest_8 : decode cX0_askGreatest 8 = .ok (.invokevirtual 62, 3) := by decide +kernel
theorem dX0_askGreatest_11 : decode cX0_askGreatest 11 = .ok (.ireturn, 1) := by decide +kernel
set_option maxRecDepth 20000 in
theorem ggX0_leastGreatestOver_X0_has : GoodIn wsX0_leastGreatestOver wsX0_has := goodIn_r _ [10, 11, 17, 18, 19, 20, 21, 22, 23, 24, 25] (by decide +kernel) (by decide +kernel)
set_option maxRecDepth 20000 in
theorem gX0_leastGreatestOver_X0_has : GoodIn wsX0_leastGreatestOver (wsV RX0 65 RX0 yX0_has wsX0_has) := goodIn_app (goodIn_of _ (by decide +kernel)) ggX0_leastGreatestOver_X0_has
set_option maxRecDepth 20000 in
theorem ggX0_leastGreatestOver_X0_isApart : GoodIn wsX0_leastGreatestOver wsX0_isApart := goodIn_r _ [15, 11, 16, 17, 18, 19, 20, 21, 22, 23, 24, 25] (by decide +kernel) (by decide +kernel)
set_option maxRecDepth 20000 in
theorem gX0_leastGreatestOver_X0_isApart : GoodIn wsX0_leastGreatestOver (wsV RX0 69 RX0 yX0_isApart wsX0_isApart) := goodIn_app (goodIn_of _ (by decide +kernel)) ggX0_leastGreatestOver_X0_isApart
theorem dX0_leastGreatestOver_0 : decode cX0_leastGreatestOver 0 = .ok (.aload_n 0, 1) := by decide +kernel
theorem dX0_leastGreatestOver_1 : decode cX0_leastGreatestOver 1 = .ok (.getfield 18, 3) := by decide +kernel
theorem dX0_leastGreatestOver_4 : decode cX0_leastGreatestOver 4 = .ok (.iconst 1, 1) := by decide +kernel
theorem dX0_leastGreatestOver_5 : decode cX0_leastGreatestOver 5 = .ok (.iaload, 1) := by decide +kernel
theorem dX0_leastGreatestOver_6 : decode cX0_leastGreatestOver 6 = .ok (.istore_n 2, 1) := by decide +kernel
theorem dX0_leastGreatestOver_7 : decode cX0_leastGreatestOver 7 = .ok (.iconst 2, 1) := by decide +kernel
theorem dX0_leastGreatestOver_8 : decode cX0_leastGreatestOver 8 = .ok (.istore_n 3, 1) := by decide +kernel
theorem dX0_leastGreatestOver_9 : decode cX0_leastGreatestOver 9 = .ok (.iload_n 3, 1) := by decide +kernel
theorem dX0_leastGreatestOver_10 : decode cX0_leastGreatestOver 10 = .ok (.sipush 128, 3) := by decide +kernel
theorem dX0_leastGreatestOver_13 : decode cX0_leastGreatestOver 13 = .ok (.if_icmp .ge 38, 3) := by decide +kernel
theorem dX0_leastGreatestOver_16 : decode cX0_leastGreatestOver 16 = .ok (.aload_n 0, 1) := by decide +kernel
theorem dX0_leastGreatestOver_17 : decode cX0_leastGreatestOver 17 = .ok (.iload_n 3, 1) := by decide +kernel
theorem dX0_leastGreatestOver_18 : decode cX0_leastGreatestOver 18 = .ok (.invokevirtual 65, 3) := by decide +kernel
theorem dX0_leastGreatestOver_21 : decode cX0_leastGreatestOver 21 = .ok (.ifCond .eq 24, 3) := by decide +kernel
theorem dX0_leastGreatestOver_24 : decode cX0_leastGreatestOver 24 = .ok (.aload_n 0, 1) := by decide +kernel
theorem dX0_leastGreatestOver_25 : decode cX0_leastGreatestOver 25 = .ok (.iload_n 3, 1) := by decide +kernel
theorem dX0_leastGreatestOver_26 : decode cX0_leastGreatestOver 26 = .ok (.iload_n 1, 1) := by decide +kernel
theorem dX0_leastGreatestOver_27 : decode cX0_leastGreatestOver 27 = .ok (.iload_n 1, 1) := by decide +kernel
theorem dX0_leastGreatestOver_28 : decode cX0_leastGreatestOver 28 = .ok (.invokevirtual 69, 3) := by decide +kernel
theorem dX0_leastGreatestOver_31 : decode cX0_leastGreatestOver 31 = .ok (.ifCond .ne 14, 3) := by decide +kernel
theorem dX0_leastGreatestOver_34 : decode cX0_leastGreatestOver 34 = .ok (.iload_n 2, 1) := by decide +kernel
theorem dX0_leastGreatestOver_35 : decode cX0_leastGreatestOver 35 = .ok (.aload_n 0, 1) := by decide +kernel
theorem dX0_leastGreatestOver_36 : decode cX0_leastGreatestOver 36 = .ok (.getfield 18, 3) := by decide +kernel
theorem dX0_leastGreatestOver_39 : decode cX0_leastGreatestOver 39 = .ok (.iload_n 3, 1) := by decide +kernel
theorem dX0_leastGreatestOver_40 : decode cX0_leastGreatestOver 40 = .ok (.iaload, 1) := by decide +kernel
theorem dX0_leastGreatestOver_41 : decode cX0_leastGreatestOver 41 = .ok (.invokestatic 73, 3) := by decide +kernel
theorem dX0_leastGreatestOver_44 : decode cX0_leastGreatestOver 44 = .ok (.istore_n 2, 1) := by decide +kernel
theorem dX0_leastGreatestOver_45 : decode cX0_leastGreatestOver 45 = .ok (.iinc 3 1, 3) := by decide +kernel
theorem dX0_leastGreatestOver_48 : decode cX0_leastGreatestOver 48 = .ok (.goto (-39), 3) := by decide +kernel
theorem dX0_leastGreatestOver_51 : decode cX0_leastGreatestOver 51 = .ok (.iload_n 2, 1) := by decide +kernel
theorem dX0_leastGreatestOver_52 : decode cX0_leastGreatestOver 52 = .ok (.ireturn, 1) := by decide +kernel
set_option maxRecDepth 20000 in
theorem ggX0_countLagging_X0_has : GoodIn wsX0_countLagging wsX0_has := goodIn_r _ [5, 6, 12, 13, 14, 15, 16, 17, 18, 19, 20] (by decide +kernel) (by decide +kernel)
set_option maxRecDepth 20000 in
theorem gX0_countLagging_X0_has : GoodIn wsX0_countLagging (wsV RX0 65 RX0 yX0_has wsX0_has) := goodIn_app (goodIn_of _ (by decide +kernel)) ggX0_countLagging_X0_has
set_option maxRecDepth 20000 in
theorem ggX0_countLagging_X0_lags : GoodIn wsX0_countLagging wsX0_lags := goodIn_r _ [10, 11, 12, 13, 14, 15, 16, 17, 18, 19, 20] (by decide +kernel) (by decide +kernel)
set_option maxRecDepth 20000 in
theorem gX0_countLagging_X0_lags : GoodIn wsX0_countLagging (wsV RX0 79 RX0 yX0_lags wsX0_lags) := goodIn_app (goodIn_of _ (by decide +kernel)) ggX0_countLagging_X0_lags
theorem dX0_countLagging_0 : decode cX0_countLagging 0 = .ok (.iconst 0, 1) := by decide +kernel
theorem dX0_countLagging_1 : decode cX0_countLagging 1 = .ok (.istore_n 1, 1) := by decide +kernel
theorem dX0_countLagging_2 : decode cX0_countLagging 2 = .ok (.iconst 2, 1) := by decide +kernel
theorem dX0_countLagging_3 : decode cX0_countLagging 3 = .ok (.istore_n 2, 1) := by decide +kernel
theorem dX0_countLagging_4 : decode cX0_countLagging 4 = .ok (.iload_n 2, 1) := by decide +kernel
theorem dX0_countLagging_5 : decode cX0_countLagging 5 = .ok (.sipush 128, 3) := by decide +kernel
theorem dX0_countLagging_8 : decode cX0_countLagging 8 = .ok (.if_icmp .ge 28, 3) := by decide +kernel
theorem dX0_countLagging_11 : decode cX0_countLagging 11 = .ok (.aload_n 0, 1) := by decide +kernel
theorem dX0_countLagging_12 : decode cX0_countLagging 12 = .ok (.iload_n 2, 1) := by decide +kernel
theorem dX0_countLagging_13 : decode cX0_countLagging 13 = .ok (.invokevirtual 65, 3) := by decide +kernel
theorem dX0_countLagging_16 : decode cX0_countLagging 16 = .ok (.ifCond .eq 14, 3) := by decide +kernel
theorem dX0_countLagging_19 : decode cX0_countLagging 19 = .ok (.aload_n 0, 1) := by decide +kernel
theorem dX0_countLagging_20 : decode cX0_countLagging 20 = .ok (.iload_n 2, 1) := by decide +kernel
theorem dX0_countLagging_21 : decode cX0_countLagging 21 = .ok (.invokevirtual 79, 3) := by decide +kernel
theorem dX0_countLagging_24 : decode cX0_countLagging 24 = .ok (.ifCond .eq 6, 3) := by decide +kernel
theorem dX0_countLagging_27 : decode cX0_countLagging 27 = .ok (.iinc 1 1, 3) := by decide +kernel
theorem dX0_countLagging_30 : decode cX0_countLagging 30 = .ok (.iinc 2 1, 3) := by decide +kernel
theorem dX0_countLagging_33 : decode cX0_countLagging 33 = .ok (.goto (-29), 3) := by decide +kernel
theorem dX0_countLagging_36 : decode cX0_countLagging 36 = .ok (.iload_n 1, 1) := by decide +kernel
theorem dX0_countLagging_37 : decode cX0_countLagging 37 = .ok (.ireturn, 1) := by decide +kernel
theorem dX0_setSpan_0 : decode cX0_setSpan 0 = .ok (.aload_n 0, 1) := by decide +kernel
theorem dX0_setSpan_1 : decode cX0_setSpan 1 = .ok (.getfield 11, 3) := by decide +kernel
theorem dX0_setSpan_4 : decode cX0_setSpan 4 = .ok (.iload_n 1, 1) := by decide +kernel
theorem dX0_setSpan_5 : decode cX0_setSpan 5 = .ok (.iload_n 2, 1) := by decide +kernel
theorem dX0_setSpan_6 : decode cX0_setSpan 6 = .ok (.iastore, 1) := by decide +kernel
theorem dX0_setSpan_7 : decode cX0_setSpan 7 = .ok (.aload_n 0, 1) := by decide +kernel
theorem dX0_setSpan_8 : decode cX0_setSpan 8 = .ok (.getfield 15, 3) := by decide +kernel
theorem dX0_setSpan_11 : decode cX0_setSpan 11 = .ok (.iload_n 1, 1) := by decide +kernel
theorem dX0_setSpan_12 : decode cX0_setSpan 12 = .ok (.iload_n 3, 1) := by decide +kernel
theorem dX0_setSpan_13 : decode cX0_setSpan 13 = .ok (.iastore, 1) := by decide +kernel
theorem dX0_setSpan_14 : decode cX0_setSpan 14 = .ok (.return_, 1) := by decide +kernel
set_option maxRecDepth 20000 in
theorem ggX0_splitSpan_X0_hasParts : GoodIn wsX0_splitSpan wsX0_hasParts := goodIn_r _ [7, 1, 2, 12, 13, 14, 15, 16, 17, 18, 19, 20] (by decide +kernel) (by decide +kernel)
set_option maxRecDepth 20000 in
theorem gX0_splitSpan_X0_hasParts : GoodIn wsX0_splitSpan (wsV RX0 82 RX0 yX0_hasParts wsX0_hasParts) := goodIn_app (goodIn_of _ (by decide +kernel)) ggX0_splitSpan_X0_hasParts
set_option maxRecDepth 20000 in
theorem ggX0_splitSpan_X0_setSpan : GoodIn wsX0_splitSpan wsX0_setSpan := goodIn_r _ [11, 1, 2, 12, 13, 14, 15, 16, 17, 18, 19, 20] (by decide +kernel) (by decide +kernel)
set_option maxRecDepth 20000 in
theorem gX0_splitSpan_X0_setSpan : GoodIn wsX0_splitSpan (wsV RX0 30 RX0 yX0_setSpan wsX0_setSpan) := goodIn_app (goodIn_of _ (by decide +kernel)) ggX0_splitSpan_X0_setSpan
theorem dX0_splitSpan_0 : decode cX0_splitSpan 0 = .ok (.aload_n 0, 1) := by decide +kernel
theorem dX0_splitSpan_1 : decode cX0_splitSpan 1 = .ok (.iload_n 1, 1) := by decide +kernel
theorem dX0_splitSpan_2 : decode cX0_splitSpan 2 = .ok (.invokevirtual 82, 3) := by decide +kernel
theorem dX0_splitSpan_5 : decode cX0_splitSpan 5 = .ok (.ifCond .eq 54, 3) := by decide +kernel
theorem dX0_splitSpan_8 : decode cX0_splitSpan 8 = .ok (.aload_n 0, 1) := by decide +kernel
theorem dX0_splitSpan_9 : decode cX0_splitSpan 9 = .ok (.getfield 11, 3) := by decide +kernel
theorem dX0_splitSpan_12 : decode cX0_splitSpan 12 = .ok (.iload_n 1, 1) := by decide +kernel
theorem dX0_splitSpan_13 : decode cX0_splitSpan 13 = .ok (.iaload, 1) := by decide +kernel
theorem dX0_splitSpan_14 : decode cX0_splitSpan 14 = .ok (.aload_n 0, 1) := by decide +kernel
theorem dX0_splitSpan_15 : decode cX0_splitSpan 15 = .ok (.getfield 15, 3) := by decide +kernel
theorem dX0_splitSpan_18 : decode cX0_splitSpan 18 = .ok (.iload_n 1, 1) := by decide +kernel
theorem dX0_splitSpan_19 : decode cX0_splitSpan 19 = .ok (.iaload, 1) := by decide +kernel
theorem dX0_splitSpan_20 : decode cX0_splitSpan 20 = .ok (.iadd, 1) := by decide +kernel
theorem dX0_splitSpan_21 : decode cX0_splitSpan 21 = .ok (.iconst 2, 1) := by decide +kernel
theorem dX0_splitSpan_22 : decode cX0_splitSpan 22 = .ok (.idiv, 1) := by decide +kernel
theorem dX0_splitSpan_23 : decode cX0_splitSpan 23 = .ok (.istore_n 2, 1) := by decide +kernel
theorem dX0_splitSpan_24 : decode cX0_splitSpan 24 = .ok (.aload_n 0, 1) := by decide +kernel
theorem dX0_splitSpan_25 : decode cX0_splitSpan 25 = .ok (.iconst 2, 1) := by decide +kernel
theorem dX0_splitSpan_26 : decode cX0_splitSpan 26 = .ok (.iload_n 1, 1) := by decide +kernel
theorem dX0_splitSpan_27 : decode cX0_splitSpan 27 = .ok (.imul, 1) := by decide +kernel
theorem dX0_splitSpan_28 : decode cX0_splitSpan 28 = .ok (.aload_n 0, 1) := by decide +kernel
theorem dX0_splitSpan_29 : decode cX0_splitSpan 29 = .ok (.getfield 11, 3) := by decide +kernel
theorem dX0_splitSpan_32 : decode cX0_splitSpan 32 = .ok (.iload_n 1, 1) := by decide +kernel
theorem dX0_splitSpan_33 : decode cX0_splitSpan 33 = .ok (.iaload, 1) := by decide +kernel
theorem dX0_splitSpan_34 : decode cX0_splitSpan 34 = .ok (.iload_n 2, 1) := by decide +kernel
theorem dX0_splitSpan_35 : decode cX0_splitSpan 35 = .ok (.invokevirtual 30, 3) := by decide +kernel
theorem dX0_splitSpan_38 : decode cX0_splitSpan 38 = .ok (.aload_n 0, 1) := by decide +kernel
theorem dX0_splitSpan_39 : decode cX0_splitSpan 39 = .ok (.iconst 2, 1) := by decide +kernel
theorem dX0_splitSpan_40 : decode cX0_splitSpan 40 = .ok (.iload_n 1, 1) := by decide +kernel
theorem dX0_splitSpan_41 : decode cX0_splitSpan 41 = .ok (.imul, 1) := by decide +kernel
theorem dX0_splitSpan_42 : decode cX0_splitSpan 42 = .ok (.iconst 1, 1) := by decide +kernel
theorem dX0_splitSpan_43 : decode cX0_splitSpan 43 = .ok (.iadd, 1) := by decide +kernel
theorem dX0_splitSpan_44 : decode cX0_splitSpan 44 = .ok (.iload_n 2, 1) := by decide +kernel
theorem dX0_splitSpan_45 : decode cX0_splitSpan 45 = .ok (.iconst 1, 1) := by decide +kernel
theorem dX0_splitSpan_46 : decode cX0_splitSpan 46 = .ok (.iadd, 1) := by decide +kernel
theorem dX0_splitSpan_47 : decode cX0_splitSpan 47 = .ok (.aload_n 0, 1) := by decide +kernel
theorem dX0_splitSpan_48 : decode cX0_splitSpan 48 = .ok (.getfield 15, 3) := by decide +kernel
theorem dX0_splitSpan_51 : decode cX0_splitSpan 51 = .ok (.iload_n 1, 1) := by decide +kernel
theorem dX0_splitSpan_52 : decode cX0_splitSpan 52 = .ok (.iaload, 1) := by decide +kernel
theorem dX0_splitSpan_53 : decode cX0_splitSpan 53 = .ok (.invokevirtual 30, 3) := by decide +kernel
theorem dX0_splitSpan_56 : decode cX0_splitSpan 56 = .ok (.goto 23, 3) := by decide +kernel
theorem dX0_splitSpan_59 : decode cX0_splitSpan 59 = .ok (.aload_n 0, 1) := by decide +kernel
theorem dX0_splitSpan_60 : decode cX0_splitSpan 60 = .ok (.iconst 2, 1) := by decide +kernel
theorem dX0_splitSpan_61 : decode cX0_splitSpan 61 = .ok (.iload_n 1, 1) := by decide +kernel
theorem dX0_splitSpan_62 : decode cX0_splitSpan 62 = .ok (.imul, 1) := by decide +kernel
theorem dX0_splitSpan_63 : decode cX0_splitSpan 63 = .ok (.iconst 0, 1) := by decide +kernel
theorem dX0_splitSpan_64 : decode cX0_splitSpan 64 = .ok (.iconst (-1), 1) := by decide +kernel
theorem dX0_splitSpan_65 : decode cX0_splitSpan 65 = .ok (.invokevirtual 30, 3) := by decide +kernel
theorem dX0_splitSpan_68 : decode cX0_splitSpan 68 = .ok (.aload_n 0, 1) := by decide +kernel
theorem dX0_splitSpan_69 : decode cX0_splitSpan 69 = .ok (.iconst 2, 1) := by decide +kernel
theorem dX0_splitSpan_70 : decode cX0_splitSpan 70 = .ok (.iload_n 1, 1) := by decide +kernel
theorem dX0_splitSpan_71 : decode cX0_splitSpan 71 = .ok (.imul, 1) := by decide +kernel
theorem dX0_splitSpan_72 : decode cX0_splitSpan 72 = .ok (.iconst 1, 1) := by decide +kernel
theorem dX0_splitSpan_73 : decode cX0_splitSpan 73 = .ok (.iadd, 1) := by decide +kernel
theorem dX0_splitSpan_74 : decode cX0_splitSpan 74 = .ok (.iconst 0, 1) := by decide +kernel
theorem dX0_splitSpan_75 : decode cX0_splitSpan 75 = .ok (.iconst (-1), 1) := by decide +kernel
theorem dX0_splitSpan_76 : decode cX0_splitSpan 76 = .ok (.invokevirtual 30, 3) := by decide +kernel
theorem dX0_splitSpan_79 : decode cX0_splitSpan 79 = .ok (.return_, 1) := by decide +kernel
theorem dX0_hasParts_0 : decode cX0_hasParts 0 = .ok (.iload_n 1, 1) := by decide +kernel
theorem dX0_hasParts_1 : decode cX0_hasParts 1 = .ok (.bipush 64, 2) := by decide +kernel
theorem dX0_hasParts_3 : decode cX0_hasParts 3 = .ok (.if_icmp .ge 22, 3) := by decide +kernel
theorem dX0_hasParts_6 : decode cX0_hasParts 6 = .ok (.aload_n 0, 1) := by decide +kernel
theorem dX0_hasParts_7 : decode cX0_hasParts 7 = .ok (.getfield 11, 3) := by decide +kernel
theorem dX0_hasParts_10 : decode cX0_hasParts 10 = .ok (.iload_n 1, 1) := by decide +kernel
theorem dX0_hasParts_11 : decode cX0_hasParts 11 = .ok (.iaload, 1) := by decide +kernel
theorem dX0_hasParts_12 : decode cX0_hasParts 12 = .ok (.aload_n 0, 1) := by decide +kernel
theorem dX0_hasParts_13 : decode cX0_hasParts 13 = .ok (.getfield 15, 3) := by decide +kernel
theorem dX0_hasParts_16 : decode cX0_hasParts 16 = .ok (.iload_n 1, 1) := by decide +kernel
theorem dX0_hasParts_17 : decode cX0_hasParts 17 = .ok (.iaload, 1) := by decide +kernel
theorem dX0_hasParts_18 : decode cX0_hasParts 18 = .ok (.if_icmp .ge 7, 3) := by decide +kernel
theorem dX0_hasParts_21 : decode cX0_hasParts 21 = .ok (.iconst 1, 1) := by decide +kernel
theorem dX0_hasParts_22 : decode cX0_hasParts 22 = .ok (.goto 4, 3) := by decide +kernel
theorem dX0_hasParts_25 : decode cX0_hasParts 25 = .ok (.iconst 0, 1) := by decide +kernel
theorem dX0_hasParts_26 : decode cX0_hasParts 26 = .ok (.ireturn, 1) := by decide +kernel
theorem dX0_isApart_0 : decode cX0_isApart 0 = .ok (.aload_n 0, 1) := by decide +kernel
theorem dX0_isApart_1 : decode cX0_isApart 1 = .ok (.getfield 15, 3) := by decide +kernel
theorem dX0_isApart_4 : decode cX0_isApart 4 = .ok (.iload_n 1, 1) := by decide +kernel
theorem dX0_isApart_5 : decode cX0_isApart 5 = .ok (.iaload, 1) := by decide +kernel
theorem dX0_isApart_6 : decode cX0_isApart 6 = .ok (.iload_n 2, 1) := by decide +kernel
theorem dX0_isApart_7 : decode cX0_isApart 7 = .ok (.if_icmp .lt 13, 3) := by decide +kernel
theorem dX0_isApart_10 : decode cX0_isApart 10 = .ok (.aload_n 0, 1) := by decide +kernel
theorem dX0_isApart_11 : decode cX0_isApart 11 = .ok (.getfield 11, 3) := by decide +kernel
theorem dX0_isApart_14 : decode cX0_isApart 14 = .ok (.iload_n 1, 1) := by decide +kernel
theorem dX0_isApart_15 : decode cX0_isApart 15 = .ok (.iaload, 1) := by decide +kernel
theorem dX0_isApart_16 : decode cX0_isApart 16 = .ok (.iload_n 3, 1) := by decide +kernel
theorem dX0_isApart_17 : decode cX0_isApart 17 = .ok (.if_icmp .le 7, 3) := by decide +kernel
theorem dX0_isApart_20 : decode cX0_isApart 20 = .ok (.iconst 1, 1) := by decide +kernel
theorem dX0_isApart_21 : decode cX0_isApart 21 = .ok (.goto 4, 3) := by decide +kernel
theorem dX0_isApart_24 : decode cX0_isApart 24 = .ok (.iconst 0, 1) := by decide +kernel
theorem dX0_isApart_25 : decode cX0_isApart 25 = .ok (.ireturn, 1) := by decide +kernel
theorem dX0_isWithin_0 : decode cX0_isWithin 0 = .ok (.iload_n 2, 1) := by decide +kernel
theorem dX0_isWithin_1 : decode cX0_isWithin 1 = .ok (.aload_n 0, 1) := by decide +kernel
theorem dX0_isWithin_2 : decode cX0_isWithin 2 = .ok (.getfield 11, 3) := by decide +kernel
theorem dX0_isWithin_5 : decode cX0_isWithin 5 = .ok (.iload_n 1, 1) := by decide +kernel
theorem dX0_isWithin_6 : decode cX0_isWithin 6 = .ok (.iaload, 1) := by decide +kernel
theorem dX0_isWithin_7 : decode cX0_isWithin 7 = .ok (.if_icmp .gt 17, 3) := by decide +kernel
theorem dX0_isWithin_10 : decode cX0_isWithin 10 = .ok (.aload_n 0, 1) := by decide +kernel
theorem dX0_isWithin_11 : decode cX0_isWithin 11 = .ok (.getfield 15, 3) := by decide +kernel
theorem dX0_isWithin_14 : decode cX0_isWithin 14 = .ok (.iload_n 1, 1) := by decide +kernel
theorem dX0_isWithin_15 : decode cX0_isWithin 15 = .ok (.iaload, 1) := by decide +kernel
theorem dX0_isWithin_16 : decode cX0_isWithin 16 = .ok (.iload_n 3, 1) := by decide +kernel
theorem dX0_isWithin_17 : decode cX0_isWithin 17 = .ok (.if_icmp .gt 7, 3) := by decide +kernel
theorem dX0_isWithin_20 : decode cX0_isWithin 20 = .ok (.iconst 1, 1) := by decide +kernel
theorem dX0_isWithin_21 : decode cX0_isWithin 21 = .ok (.goto 4, 3) := by decide +kernel
theorem dX0_isWithin_24 : decode cX0_isWithin 24 = .ok (.iconst 0, 1) := by decide +kernel
theorem dX0_isWithin_25 : decode cX0_isWithin 25 = .ok (.ireturn, 1) := by decide +kernel
theorem dX0_lags_0 : decode cX0_lags 0 = .ok (.aload_n 0, 1) := by decide +kernel
theorem dX0_lags_1 : decode cX0_lags 1 = .ok (.getfield 18, 3) := by decide +kernel
theorem dX0_lags_4 : decode cX0_lags 4 = .ok (.iload_n 1, 1) := by decide +kernel
theorem dX0_lags_5 : decode cX0_lags 5 = .ok (.iaload, 1) := by decide +kernel
theorem dX0_lags_6 : decode cX0_lags 6 = .ok (.aload_n 0, 1) := by decide +kernel
theorem dX0_lags_7 : decode cX0_lags 7 = .ok (.getfield 18, 3) := by decide +kernel
theorem dX0_lags_10 : decode cX0_lags 10 = .ok (.iload_n 1, 1) := by decide +kernel
theorem dX0_lags_11 : decode cX0_lags 11 = .ok (.iconst 2, 1) := by decide +kernel
theorem dX0_lags_12 : decode cX0_lags 12 = .ok (.idiv, 1) := by decide +kernel
theorem dX0_lags_13 : decode cX0_lags 13 = .ok (.iaload, 1) := by decide +kernel
theorem dX0_lags_14 : decode cX0_lags 14 = .ok (.if_icmp .le 7, 3) := by decide +kernel
theorem dX0_lags_17 : decode cX0_lags 17 = .ok (.iconst 1, 1) := by decide +kernel
theorem dX0_lags_18 : decode cX0_lags 18 = .ok (.goto 4, 3) := by decide +kernel
theorem dX0_lags_21 : decode cX0_lags 21 = .ok (.iconst 0, 1) := by decide +kernel
theorem dX0_lags_22 : decode cX0_lags 22 = .ok (.ireturn, 1) := by decide +kernel
theorem dX0_beginCall_0 : decode cX0_beginCall 0 = .ok (.aload_n 0, 1) := by decide +kernel
theorem dX0_beginCall_1 : decode cX0_beginCall 1 = .ok (.dup, 1) := by decide +kernel
theorem dX0_beginCall_2 : decode cX0_beginCall 2 = .ok (.getfield 45, 3) := by decide +kernel
theorem dX0_beginCall_5 : decode cX0_beginCall 5 = .ok (.iconst 1, 1) := by decide +kernel
theorem dX0_beginCall_6 : decode cX0_beginCall 6 = .ok (.iadd, 1) := by decide +kernel
theorem dX0_beginCall_7 : decode cX0_beginCall 7 = .ok (.putfield 45, 3) := by decide +kernel
theorem dX0_beginCall_10 : decode cX0_beginCall 10 = .ok (.aload_n 0, 1) := by decide +kernel
theorem dX0_beginCall_11 : decode cX0_beginCall 11 = .ok (.iconst 0, 1) := by decide +kernel
theorem dX0_beginCall_12 : decode cX0_beginCall 12 = .ok (.putfield 38, 3) := by decide +kernel
theorem dX0_beginCall_15 : decode cX0_beginCall 15 = .ok (.return_, 1) := by decide +kernel
theorem dX0_countVisit_0 : decode cX0_countVisit 0 = .ok (.aload_n 0, 1) := by decide +kernel
theorem dX0_countVisit_1 : decode cX0_countVisit 1 = .ok (.dup, 1) := by decide +kernel
theorem dX0_countVisit_2 : decode cX0_countVisit 2 = .ok (.getfield 38, 3) := by decide +kernel
theorem dX0_countVisit_5 : decode cX0_countVisit 5 = .ok (.iconst 1, 1) := by decide +kernel
theorem dX0_countVisit_6 : decode cX0_countVisit 6 = .ok (.iadd, 1) := by decide +kernel
theorem dX0_countVisit_7 : decode cX0_countVisit 7 = .ok (.putfield 38, 3) := by decide +kernel
theorem dX0_countVisit_10 : decode cX0_countVisit 10 = .ok (.aload_n 0, 1) := by decide +kernel
theorem dX0_countVisit_11 : decode cX0_countVisit 11 = .ok (.dup, 1) := by decide +kernel
theorem dX0_countVisit_12 : decode cX0_countVisit 12 = .ok (.getfield 42, 3) := by decide +kernel
theorem dX0_countVisit_15 : decode cX0_countVisit 15 = .ok (.iconst 1, 1) := by decide +kernel
theorem dX0_countVisit_16 : decode cX0_countVisit 16 = .ok (.iadd, 1) := by decide +kernel
theorem dX0_countVisit_17 : decode cX0_countVisit 17 = .ok (.putfield 42, 3) := by decide +kernel
theorem dX0_countVisit_20 : decode cX0_countVisit 20 = .ok (.return_, 1) := by decide +kernel
set_option maxRecDepth 20000 in
theorem ggX0_pressFrom_X0_countVisit : GoodIn wsX0_pressFrom wsX0_countVisit := goodIn_r _ [7, 8, 9, 61, 62, 63, 64, 65, 66, 67, 68, 69] (by decide +kernel) (by decide +kernel)
set_option maxRecDepth 20000 in
theorem gX0_pressFrom_X0_countVisit : GoodIn wsX0_pressFrom (wsV RX0 85 RX0 yX0_countVisit wsX0_countVisit) := goodIn_app (goodIn_of _ (by decide +kernel)) ggX0_pressFrom_X0_countVisit
set_option maxRecDepth 20000 in
theorem ggX0_pressFrom_X0_isApart : GoodIn wsX0_pressFrom wsX0_isApart := goodIn_r _ [13, 14, 15, 61, 62, 63, 64, 65, 66, 67, 68, 69] (by decide +kernel) (by decide +kernel)
set_option maxRecDepth 20000 in
theorem gX0_pressFrom_X0_isApart : GoodIn wsX0_pressFrom (wsV RX0 69 RX0 yX0_isApart wsX0_isApart) := goodIn_app (goodIn_of _ (by decide +kernel)) ggX0_pressFrom_X0_isApart
set_option maxRecDepth 20000 in
theorem ggX0_pressFrom_X0_isWithin : GoodIn wsX0_pressFrom wsX0_isWithin := goodIn_r _ [19, 15, 14, 61, 62, 63, 64, 65, 66, 67, 68, 69] (by decide +kernel) (by decide +kernel)
set_option maxRecDepth 20000 in
theorem gX0_pressFrom_X0_isWithin : GoodIn wsX0_pressFrom (wsV RX0 88 RX0 yX0_isWithin wsX0_isWithin) := goodIn_app (goodIn_of _ (by decide +kernel)) ggX0_pressFrom_X0_isWithin
set_option maxRecDepth 20000 in
theorem ggX0_pressFrom_X0_hasParts : GoodIn wsX0_pressFrom wsX0_hasParts := goodIn_r _ [23, 15, 14, 61, 62, 63, 64, 65, 66, 67, 68, 69] (by decide +kernel) (by decide +kernel)
set_option maxRecDepth 20000 in
theorem gX0_pressFrom_X0_hasParts : GoodIn wsX0_pressFrom (wsV RX0 82 RX0 yX0_hasParts wsX0_hasParts) := goodIn_app (goodIn_of _ (by decide +kernel)) ggX0_pressFrom_X0_hasParts
set_option maxRecDepth 20000 in
theorem ggX0_pressFrom_X0_pressDown : GoodIn wsX0_pressFrom wsX0_pressDown := goodIn_r _ [27, 28, 1, 29, 61, 62, 63, 64, 65, 66, 67, 68, 69] (by decide +kernel) (by decide +kernel)
set_option maxRecDepth 20000 in
theorem gX0_pressFrom_X0_pressDown : GoodIn wsX0_pressFrom (wsV RX0 91 RX0 yX0_pressDown wsX0_pressDown) := goodIn_app (goodIn_of _ (by decide +kernel)) ggX0_pressFrom_X0_pressDown
set_option maxRecDepth 20000 in
theorem ggX0_pressFrom_X0_catchUpBelow : GoodIn wsX0_pressFrom wsX0_catchUpBelow := goodIn_r _ [33, 34, 35, 36, 6, 37, 1, 38, 39, 40, 41, 24, 25, 26, 27, 28, 29, 61, 62, 63, 64, 65, 66, 67, 68, 69] (by decide +kernel) (by decide +kernel)
set_option maxRecDepth 20000 in
theorem gX0_pressFrom_X0_catchUpBelow : GoodIn wsX0_pressFrom (wsV RX0 95 RX0 yX0_catchUpBelow wsX0_catchUpBelow) := goodIn_app (goodIn_of _ (by decide +kernel)) ggX0_pressFrom_X0_catchUpBelow
set_option maxRecDepth 20000 in
theorem ggX0_pressFrom_X0_pressFrom : GoodIn wsX0_pressFrom wsX0_pressFrom := goodIn_r _ [0, 1, 2, 3, 4, 5, 6, 7, 8, 9, 10, 11, 12, 13, 14, 15, 16, 17, 18, 19, 20, 21, 22, 23, 24, 25, 26, 27, 28, 29, 30, 31, 32, 33, 34, 35, 36, 37, 38, 39, 40, 41, 42, 43, 44, 45, 46, 47, 48, 49, 50, 51, 52, 53, 54, 55, 56, 57, 58, 59, 60, 61, 62, 63, 64, 65, 66, 67, 68, 69] (by decide +kernel) (by decide +kernel)
set_option maxRecDepth 20000 in
theorem gX0_pressFrom_X0_pressFrom : GoodIn wsX0_pressFrom (wsV RX0 51 RX0 yX0_pressFrom wsX0_pressFrom) := goodIn_app (goodIn_of _ (by decide +kernel)) ggX0_pressFrom_X0_pressFrom
set_option maxRecDepth 20000 in
theorem ggX0_pressFrom_X0_tellAnew : GoodIn wsX0_pressFrom wsX0_tellAnew := goodIn_r _ [48, 1, 49, 50, 51, 52, 29, 2, 28, 53, 54, 55, 6, 56, 57, 58, 59, 60, 61, 62, 63, 64, 65, 66, 67, 68, 69] (by decide +kernel) (by decide +kernel)
set_option maxRecDepth 20000 in
theorem gX0_pressFrom_X0_tellAnew : GoodIn wsX0_pressFrom (wsV RX0 98 RX0 yX0_tellAnew wsX0_tellAnew) := goodIn_app (goodIn_of _ (by decide +kernel)) ggX0_pressFrom_X0_tellAnew
theorem dX0_pressFrom_0 : decode cX0_pressFrom 0 = .ok (.aload_n 0, 1) := by decide +kernel
theorem dX0_pressFrom_1 : decode cX0_pressFrom 1 = .ok (.invokevirtual 85, 3) := by decide +kernel
theorem dX0_pressFrom_4 : decode cX0_pressFrom 4 = .ok (.aload_n 0, 1) := by decide +kernel
theorem dX0_pressFrom_5 : decode cX0_pressFrom 5 = .ok (.iload_n 1, 1) := by decide +kernel
theorem dX0_pressFrom_6 : decode cX0_pressFrom 6 = .ok (.iload_n 2, 1) := by decide +kernel
theorem dX0_pressFrom_7 : decode cX0_pressFrom 7 = .ok (.iload_n 3, 1) := by decide +kernel
theorem dX0_pressFrom_8 : decode cX0_pressFrom 8 = .ok (.invokevirtual 69, 3) := by decide +kernel
theorem dX0_pressFrom_11 : decode cX0_pressFrom 11 = .ok (.ifCond .ne 14, 3) := by decide +kernel
theorem dX0_pressFrom_14 : decode cX0_pressFrom 14 = .ok (.aload_n 0, 1) := by decide +kernel
theorem dX0_pressFrom_15 : decode cX0_pressFrom 15 = .ok (.getfield 18, 3) := by decide +kernel
theorem dX0_pressFrom_18 : decode cX0_pressFrom 18 = .ok (.iload_n 1, 1) := by decide +kernel
theorem dX0_pressFrom_19 : decode cX0_pressFrom 19 = .ok (.iaload, 1) := by decide +kernel
theorem dX0_pressFrom_20 : decode cX0_pressFrom 20 = .ok (.iload 4, 2) := by decide +kernel
theorem dX0_pressFrom_22 : decode cX0_pressFrom 22 = .ok (.if_icmp .gt 4, 3) := by decide +kernel
theorem dX0_pressFrom_25 : decode cX0_pressFrom 25 = .ok (.return_, 1) := by decide +kernel
theorem dX0_pressFrom_26 : decode cX0_pressFrom 26 = .ok (.aload_n 0, 1) := by decide +kernel
theorem dX0_pressFrom_27 : decode cX0_pressFrom 27 = .ok (.iload_n 1, 1) := by decide +kernel
theorem dX0_pressFrom_28 : decode cX0_pressFrom 28 = .ok (.iload_n 2, 1) := by decide +kernel
theorem dX0_pressFrom_29 : decode cX0_pressFrom 29 = .ok (.iload_n 3, 1) := by decide +kernel
theorem dX0_pressFrom_30 : decode cX0_pressFrom 30 = .ok (.invokevirtual 88, 3) := by decide +kernel
theorem dX0_pressFrom_33 : decode cX0_pressFrom 33 = .ok (.ifCond .eq 18, 3) := by decide +kernel
theorem dX0_pressFrom_36 : decode cX0_pressFrom 36 = .ok (.aload_n 0, 1) := by decide +kernel
theorem dX0_pressFrom_37 : decode cX0_pressFrom 37 = .ok (.getfield 21, 3) := by decide +kernel
theorem dX0_pressFrom_40 : decode cX0_pressFrom 40 = .ok (.iload_n 1, 1) := by decide +kernel
theorem dX0_pressFrom_41 : decode cX0_pressFrom 41 = .ok (.iaload, 1) := by decide +kernel
theorem dX0_pressFrom_42 : decode cX0_pressFrom 42 = .ok (.iload 4, 2) := by decide +kernel
theorem dX0_pressFrom_44 : decode cX0_pressFrom 44 = .ok (.if_icmp .ge 7, 3) := by decide +kernel
theorem dX0_pressFrom_47 : decode cX0_pressFrom 47 = .ok (.iconst 1, 1) := by decide +kernel
theorem dX0_pressFrom_48 : decode cX0_pressFrom 48 = .ok (.goto 4, 3) := by decide +kernel
theorem dX0_pressFrom_51 : decode cX0_pressFrom 51 = .ok (.iconst 0, 1) := by decide +kernel
theorem dX0_pressFrom_52 : decode cX0_pressFrom 52 = .ok (.istore 5, 2) := by decide +kernel
theorem dX0_pressFrom_54 : decode cX0_pressFrom 54 = .ok (.iload 5, 2) := by decide +kernel
theorem dX0_pressFrom_56 : decode cX0_pressFrom 56 = .ok (.ifCond .ne 11, 3) := by decide +kernel
theorem dX0_pressFrom_59 : decode cX0_pressFrom 59 = .ok (.aload_n 0, 1) := by decide +kernel
theorem dX0_pressFrom_60 : decode cX0_pressFrom 60 = .ok (.iload_n 1, 1) := by decide +kernel
theorem dX0_pressFrom_61 : decode cX0_pressFrom 61 = .ok (.invokevirtual 82, 3) := by decide +kernel
theorem dX0_pressFrom_64 : decode cX0_pressFrom 64 = .ok (.ifCond .ne 11, 3) := by decide +kernel
theorem dX0_pressFrom_67 : decode cX0_pressFrom 67 = .ok (.aload_n 0, 1) := by decide +kernel
theorem dX0_pressFrom_68 : decode cX0_pressFrom 68 = .ok (.iload_n 1, 1) := by decide +kernel
theorem dX0_pressFrom_69 : decode cX0_pressFrom 69 = .ok (.iload 4, 2) := by decide +kernel
theorem dX0_pressFrom_71 : decode cX0_pressFrom 71 = .ok (.invokevirtual 91, 3) := by decide +kernel
theorem dX0_pressFrom_74 : decode cX0_pressFrom 74 = .ok (.return_, 1) := by decide +kernel
theorem dX0_pressFrom_75 : decode cX0_pressFrom 75 = .ok (.aload_n 0, 1) := by decide +kernel
theorem dX0_pressFrom_76 : decode cX0_pressFrom 76 = .ok (.iload_n 1, 1) := by decide +kernel
theorem dX0_pressFrom_77 : decode cX0_pressFrom 77 = .ok (.invokevirtual 95, 3) := by decide +kernel
theorem dX0_pressFrom_80 : decode cX0_pressFrom 80 = .ok (.aload_n 0, 1) := by decide +kernel
theorem dX0_pressFrom_81 : decode cX0_pressFrom 81 = .ok (.iconst 2, 1) := by decide +kernel
theorem dX0_pressFrom_82 : decode cX0_pressFrom 82 = .ok (.iload_n 1, 1) := by decide +kernel
theorem dX0_pressFrom_83 : decode cX0_pressFrom 83 = .ok (.imul, 1) := by decide +kernel
theorem dX0_pressFrom_84 : decode cX0_pressFrom 84 = .ok (.iload_n 2, 1) := by decide +kernel
theorem dX0_pressFrom_85 : decode cX0_pressFrom 85 = .ok (.iload_n 3, 1) := by decide +kernel
theorem dX0_pressFrom_86 : decode cX0_pressFrom 86 = .ok (.iload 4, 2) := by decide +kernel
theorem dX0_pressFrom_88 : decode cX0_pressFrom 88 = .ok (.invokevirtual 51, 3) := by decide +kernel
theorem dX0_pressFrom_91 : decode cX0_pressFrom 91 = .ok (.aload_n 0, 1) := by decide +kernel
theorem dX0_pressFrom_92 : decode cX0_pressFrom 92 = .ok (.iconst 2, 1) := by decide +kernel
theorem dX0_pressFrom_93 : decode cX0_pressFrom 93 = .ok (.iload_n 1, 1) := by decide +kernel
theorem dX0_pressFrom_94 : decode cX0_pressFrom 94 = .ok (.imul, 1) := by decide +kernel
theorem dX0_pressFrom_95 : decode cX0_pressFrom 95 = .ok (.iconst 1, 1) := by decide +kernel
theorem dX0_pressFrom_96 : decode cX0_pressFrom 96 = .ok (.iadd, 1) := by decide +kernel
theorem dX0_pressFrom_97 : decode cX0_pressFrom 97 = .ok (.iload_n 2, 1) := by decide +kernel
theorem dX0_pressFrom_98 : decode cX0_pressFrom 98 = .ok (.iload_n 3, 1) := by decide +kernel
theorem dX0_pressFrom_99 : decode cX0_pressFrom 99 = .ok (.iload 4, 2) := by decide +kernel
theorem dX0_pressFrom_101 : decode cX0_pressFrom 101 = .ok (.invokevirtual 51, 3) := by decide +kernel
theorem dX0_pressFrom_104 : decode cX0_pressFrom 104 = .ok (.aload_n 0, 1) := by decide +kernel
theorem dX0_pressFrom_105 : decode cX0_pressFrom 105 = .ok (.iload_n 1, 1) := by decide +kernel
theorem dX0_pressFrom_106 : decode cX0_pressFrom 106 = .ok (.invokevirtual 98, 3) := by decide +kernel
theorem dX0_pressFrom_109 : decode cX0_pressFrom 109 = .ok (.return_, 1) := by decide +kernel
set_option maxRecDepth 20000 in
theorem ggX0_raiseFrom_X0_countVisit : GoodIn wsX0_raiseFrom wsX0_countVisit := goodIn_r _ [8, 9, 10, 53, 54, 55, 56, 57, 58, 59, 60, 61] (by decide +kernel) (by decide +kernel)
set_option maxRecDepth 20000 in
theorem gX0_raiseFrom_X0_countVisit : GoodIn wsX0_raiseFrom (wsV RX0 85 RX0 yX0_countVisit wsX0_countVisit) := goodIn_app (goodIn_of _ (by decide +kernel)) ggX0_raiseFrom_X0_countVisit
set_option maxRecDepth 20000 in
theorem ggX0_raiseFrom_X0_hasParts : GoodIn wsX0_raiseFrom wsX0_hasParts := goodIn_r _ [14, 15, 3, 53, 54, 55, 56, 57, 58, 59, 60, 61] (by decide +kernel) (by decide +kernel)
set_option maxRecDepth 20000 in
theorem gX0_raiseFrom_X0_hasParts : GoodIn wsX0_raiseFrom (wsV RX0 82 RX0 yX0_hasParts wsX0_hasParts) := goodIn_app (goodIn_of _ (by decide +kernel)) ggX0_raiseFrom_X0_hasParts
set_option maxRecDepth 20000 in
theorem ggX0_raiseFrom_X0_catchUpBelow : GoodIn wsX0_raiseFrom wsX0_catchUpBelow := goodIn_r _ [19, 20, 21, 22, 7, 23, 1, 24, 25, 26, 27, 28, 29, 30, 31, 2, 32, 53, 54, 55, 56, 57, 58, 59, 60, 61] (by decide +kernel) (by decide +kernel)
set_option maxRecDepth 20000 in
theorem gX0_raiseFrom_X0_catchUpBelow : GoodIn wsX0_raiseFrom (wsV RX0 95 RX0 yX0_catchUpBelow wsX0_catchUpBelow) := goodIn_app (goodIn_of _ (by decide +kernel)) ggX0_raiseFrom_X0_catchUpBelow
set_option maxRecDepth 20000 in
theorem ggX0_raiseFrom_X0_raiseFrom : GoodIn wsX0_raiseFrom wsX0_raiseFrom := goodIn_r _ [0, 1, 2, 3, 4, 5, 6, 7, 8, 9, 10, 11, 12, 13, 14, 15, 16, 17, 18, 19, 20, 21, 22, 23, 24, 25, 26, 27, 28, 29, 30, 31, 32, 33, 34, 35, 36, 37, 38, 39, 40, 41, 42, 43, 44, 45, 46, 47, 48, 49, 50, 51, 52, 53, 54, 55, 56, 57, 58, 59, 60, 61] (by decide +kernel) (by decide +kernel)
set_option maxRecDepth 20000 in
theorem gX0_raiseFrom_X0_raiseFrom : GoodIn wsX0_raiseFrom (wsV RX0 55 RX0 yX0_raiseFrom wsX0_raiseFrom) := goodIn_app (goodIn_of _ (by decide +kernel)) ggX0_raiseFrom_X0_raiseFrom
set_option maxRecDepth 20000 in
theorem ggX0_raiseFrom_X0_tellAnew : GoodIn wsX0_raiseFrom wsX0_tellAnew := goodIn_r _ [39, 1, 40, 41, 42, 43, 32, 44, 2, 45, 46, 47, 7, 48, 49, 50, 51, 52, 53, 54, 55, 56, 57, 58, 59, 60, 61] (by decide +kernel) (by decide +kernel)
set_option maxRecDepth 20000 in
theorem gX0_raiseFrom_X0_tellAnew : GoodIn wsX0_raiseFrom (wsV RX0 98 RX0 yX0_tellAnew wsX0_tellAnew) := goodIn_app (goodIn_of _ (by decide +kernel)) ggX0_raiseFrom_X0_tellAnew
theorem dX0_raiseFrom_0 : decode cX0_raiseFrom 0 = .ok (.aload_n 0, 1) := by decide +kernel
theorem dX0_raiseFrom_1 : decode cX0_raiseFrom 1 = .ok (.invokevirtual 85, 3) := by decide +kernel
theorem dX0_raiseFrom_4 : decode cX0_raiseFrom 4 = .ok (.aload_n 0, 1) := by decide +kernel
theorem dX0_raiseFrom_5 : decode cX0_raiseFrom 5 = .ok (.iload_n 1, 1) := by decide +kernel
theorem dX0_raiseFrom_6 : decode cX0_raiseFrom 6 = .ok (.invokevirtual 82, 3) := by decide +kernel
theorem dX0_raiseFrom_9 : decode cX0_raiseFrom 9 = .ok (.ifCond .ne 18, 3) := by decide +kernel
theorem dX0_raiseFrom_12 : decode cX0_raiseFrom 12 = .ok (.aload_n 0, 1) := by decide +kernel
theorem dX0_raiseFrom_13 : decode cX0_raiseFrom 13 = .ok (.getfield 18, 3) := by decide +kernel
theorem dX0_raiseFrom_16 : decode cX0_raiseFrom 16 = .ok (.iload_n 1, 1) := by decide +kernel
theorem dX0_raiseFrom_17 : decode cX0_raiseFrom 17 = .ok (.iload_n 3, 1) := by decide +kernel
theorem dX0_raiseFrom_18 : decode cX0_raiseFrom 18 = .ok (.iastore, 1) := by decide +kernel
theorem dX0_raiseFrom_19 : decode cX0_raiseFrom 19 = .ok (.aload_n 0, 1) := by decide +kernel
theorem dX0_raiseFrom_20 : decode cX0_raiseFrom 20 = .ok (.getfield 27, 3) := by decide +kernel
theorem dX0_raiseFrom_23 : decode cX0_raiseFrom 23 = .ok (.iload_n 1, 1) := by decide +kernel
theorem dX0_raiseFrom_24 : decode cX0_raiseFrom 24 = .ok (.iload_n 3, 1) := by decide +kernel
theorem dX0_raiseFrom_25 : decode cX0_raiseFrom 25 = .ok (.iastore, 1) := by decide +kernel
theorem dX0_raiseFrom_26 : decode cX0_raiseFrom 26 = .ok (.return_, 1) := by decide +kernel
theorem dX0_raiseFrom_27 : decode cX0_raiseFrom 27 = .ok (.aload_n 0, 1) := by decide +kernel
theorem dX0_raiseFrom_28 : decode cX0_raiseFrom 28 = .ok (.iload_n 1, 1) := by decide +kernel
theorem dX0_raiseFrom_29 : decode cX0_raiseFrom 29 = .ok (.invokevirtual 95, 3) := by decide +kernel
theorem dX0_raiseFrom_32 : decode cX0_raiseFrom 32 = .ok (.iload_n 2, 1) := by decide +kernel
theorem dX0_raiseFrom_33 : decode cX0_raiseFrom 33 = .ok (.aload_n 0, 1) := by decide +kernel
theorem dX0_raiseFrom_34 : decode cX0_raiseFrom 34 = .ok (.getfield 15, 3) := by decide +kernel
theorem dX0_raiseFrom_37 : decode cX0_raiseFrom 37 = .ok (.iconst 2, 1) := by decide +kernel
theorem dX0_raiseFrom_38 : decode cX0_raiseFrom 38 = .ok (.iload_n 1, 1) := by decide +kernel
theorem dX0_raiseFrom_39 : decode cX0_raiseFrom 39 = .ok (.imul, 1) := by decide +kernel
theorem dX0_raiseFrom_40 : decode cX0_raiseFrom 40 = .ok (.iaload, 1) := by decide +kernel
theorem dX0_raiseFrom_41 : decode cX0_raiseFrom 41 = .ok (.if_icmp .gt 7, 3) := by decide +kernel
theorem dX0_raiseFrom_44 : decode cX0_raiseFrom 44 = .ok (.iconst 1, 1) := by decide +kernel
theorem dX0_raiseFrom_45 : decode cX0_raiseFrom 45 = .ok (.goto 4, 3) := by decide +kernel
theorem dX0_raiseFrom_48 : decode cX0_raiseFrom 48 = .ok (.iconst 0, 1) := by decide +kernel
theorem dX0_raiseFrom_49 : decode cX0_raiseFrom 49 = .ok (.istore 4, 2) := by decide +kernel
theorem dX0_raiseFrom_51 : decode cX0_raiseFrom 51 = .ok (.aload_n 0, 1) := by decide +kernel
theorem dX0_raiseFrom_52 : decode cX0_raiseFrom 52 = .ok (.iload 4, 2) := by decide +kernel
theorem dX0_raiseFrom_54 : decode cX0_raiseFrom 54 = .ok (.ifCond .eq 9, 3) := by decide +kernel
theorem dX0_raiseFrom_57 : decode cX0_raiseFrom 57 = .ok (.iconst 2, 1) := by decide +kernel
theorem dX0_raiseFrom_58 : decode cX0_raiseFrom 58 = .ok (.iload_n 1, 1) := by decide +kernel
theorem dX0_raiseFrom_59 : decode cX0_raiseFrom 59 = .ok (.imul, 1) := by decide +kernel
theorem dX0_raiseFrom_60 : decode cX0_raiseFrom 60 = .ok (.goto 8, 3) := by decide +kernel
theorem dX0_raiseFrom_63 : decode cX0_raiseFrom 63 = .ok (.iconst 2, 1) := by decide +kernel
theorem dX0_raiseFrom_64 : decode cX0_raiseFrom 64 = .ok (.iload_n 1, 1) := by decide +kernel
theorem dX0_raiseFrom_65 : decode cX0_raiseFrom 65 = .ok (.imul, 1) := by decide +kernel
theorem dX0_raiseFrom_66 : decode cX0_raiseFrom 66 = .ok (.iconst 1, 1) := by decide +kernel
theorem dX0_raiseFrom_67 : decode cX0_raiseFrom 67 = .ok (.iadd, 1) := by decide +kernel
theorem dX0_raiseFrom_68 : decode cX0_raiseFrom 68 = .ok (.iload_n 2, 1) := by decide +kernel
theorem dX0_raiseFrom_69 : decode cX0_raiseFrom 69 = .ok (.iload_n 3, 1) := by decide +kernel
theorem dX0_raiseFrom_70 : decode cX0_raiseFrom 70 = .ok (.invokevirtual 55, 3) := by decide +kernel
theorem dX0_raiseFrom_73 : decode cX0_raiseFrom 73 = .ok (.aload_n 0, 1) := by decide +kernel
theorem dX0_raiseFrom_74 : decode cX0_raiseFrom 74 = .ok (.iload_n 1, 1) := by decide +kernel
theorem dX0_raiseFrom_75 : decode cX0_raiseFrom 75 = .ok (.invokevirtual 98, 3) := by decide +kernel
theorem dX0_raiseFrom_78 : decode cX0_raiseFrom 78 = .ok (.return_, 1) := by decide +kernel
set_option maxRecDepth 20000 in
theorem ggX0_sumFrom_X0_countVisit : GoodIn wsX0_sumFrom wsX0_countVisit := goodIn_r _ [6, 7, 8, 44, 45, 46, 47, 48, 49, 50, 51, 52] (by decide +kernel) (by decide +kernel)
set_option maxRecDepth 20000 in
theorem gX0_sumFrom_X0_countVisit : GoodIn wsX0_sumFrom (wsV RX0 85 RX0 yX0_countVisit wsX0_countVisit) := goodIn_app (goodIn_of _ (by decide +kernel)) ggX0_sumFrom_X0_countVisit
set_option maxRecDepth 20000 in
theorem ggX0_sumFrom_X0_isApart : GoodIn wsX0_sumFrom wsX0_isApart := goodIn_r _ [12, 13, 14, 44, 45, 46, 47, 48, 49, 50, 51, 52] (by decide +kernel) (by decide +kernel)
set_option maxRecDepth 20000 in
theorem gX0_sumFrom_X0_isApart : GoodIn wsX0_sumFrom (wsV RX0 69 RX0 yX0_isApart wsX0_isApart) := goodIn_app (goodIn_of _ (by decide +kernel)) ggX0_sumFrom_X0_isApart
set_option maxRecDepth 20000 in
theorem ggX0_sumFrom_X0_isWithin : GoodIn wsX0_sumFrom wsX0_isWithin := goodIn_r _ [18, 14, 13, 44, 45, 46, 47, 48, 49, 50, 51, 52] (by decide +kernel) (by decide +kernel)
set_option maxRecDepth 20000 in
theorem gX0_sumFrom_X0_isWithin : GoodIn wsX0_sumFrom (wsV RX0 88 RX0 yX0_isWithin wsX0_isWithin) := goodIn_app (goodIn_of _ (by decide +kernel)) ggX0_sumFrom_X0_isWithin
set_option maxRecDepth 20000 in
theorem ggX0_sumFrom_X0_hasParts : GoodIn wsX0_sumFrom wsX0_hasParts := goodIn_r _ [22, 14, 13, 44, 45, 46, 47, 48, 49, 50, 51, 52] (by decide +kernel) (by decide +kernel)
set_option maxRecDepth 20000 in
theorem gX0_sumFrom_X0_hasParts : GoodIn wsX0_sumFrom (wsV RX0 82 RX0 yX0_hasParts wsX0_hasParts) := goodIn_app (goodIn_of _ (by decide +kernel)) ggX0_sumFrom_X0_hasParts
set_option maxRecDepth 20000 in
theorem ggX0_sumFrom_X0_catchUpBelow : GoodIn wsX0_sumFrom wsX0_catchUpBelow := goodIn_r _ [26, 27, 28, 29, 5, 30, 31, 32, 33, 34, 35, 36, 37, 38, 39, 1, 40, 44, 45, 46, 47, 48, 49, 50, 51, 52] (by decide +kernel) (by decide +kernel)
set_option maxRecDepth 20000 in
theorem gX0_sumFrom_X0_catchUpBelow : GoodIn wsX0_sumFrom (wsV RX0 95 RX0 yX0_catchUpBelow wsX0_catchUpBelow) := goodIn_app (goodIn_of _ (by decide +kernel)) ggX0_sumFrom_X0_catchUpBelow
set_option maxRecDepth 20000 in
theorem ggX0_sumFrom_X0_sumFrom : GoodIn wsX0_sumFrom wsX0_sumFrom := goodIn_r _ [0, 1, 2, 3, 4, 5, 6, 7, 8, 9, 10, 11, 12, 13, 14, 15, 16, 17, 18, 19, 20, 21, 22, 23, 24, 25, 26, 27, 28, 29, 30, 31, 32, 33, 34, 35, 36, 37, 38, 39, 40, 41, 42, 43, 44, 45, 46, 47, 48, 49, 50, 51, 52] (by decide +kernel) (by decide +kernel)
set_option maxRecDepth 20000 in
theorem gX0_sumFrom_X0_sumFrom : GoodIn wsX0_sumFrom (wsV RX0 58 RX0 yX0_sumFrom wsX0_sumFrom) := goodIn_app (goodIn_of _ (by decide +kernel)) ggX0_sumFrom_X0_sumFrom
theorem dX0_sumFrom_0 : decode cX0_sumFrom 0 = .ok (.aload_n 0, 1) := by decide +kernel
theorem dX0_sumFrom_1 : decode cX0_sumFrom 1 = .ok (.invokevirtual 85, 3) := by decide +kernel
theorem dX0_sumFrom_4 : decode cX0_sumFrom 4 = .ok (.aload_n 0, 1) := by decide +kernel
theorem dX0_sumFrom_5 : decode cX0_sumFrom 5 = .ok (.iload_n 1, 1) := by decide +kernel
theorem dX0_sumFrom_6 : decode cX0_sumFrom 6 = .ok (.iload_n 2, 1) := by decide +kernel
theorem dX0_sumFrom_7 : decode cX0_sumFrom 7 = .ok (.iload_n 3, 1) := by decide +kernel
theorem dX0_sumFrom_8 : decode cX0_sumFrom 8 = .ok (.invokevirtual 69, 3) := by decide +kernel
theorem dX0_sumFrom_11 : decode cX0_sumFrom 11 = .ok (.ifCond .eq 5, 3) := by decide +kernel
theorem dX0_sumFrom_14 : decode cX0_sumFrom 14 = .ok (.iconst 0, 1) := by decide +kernel
theorem dX0_sumFrom_15 : decode cX0_sumFrom 15 = .ok (.ireturn, 1) := by decide +kernel
theorem dX0_sumFrom_16 : decode cX0_sumFrom 16 = .ok (.aload_n 0, 1) := by decide +kernel
theorem dX0_sumFrom_17 : decode cX0_sumFrom 17 = .ok (.iload_n 1, 1) := by decide +kernel
theorem dX0_sumFrom_18 : decode cX0_sumFrom 18 = .ok (.iload_n 2, 1) := by decide +kernel
theorem dX0_sumFrom_19 : decode cX0_sumFrom 19 = .ok (.iload_n 3, 1) := by decide +kernel
theorem dX0_sumFrom_20 : decode cX0_sumFrom 20 = .ok (.invokevirtual 88, 3) := by decide +kernel
theorem dX0_sumFrom_23 : decode cX0_sumFrom 23 = .ok (.ifCond .ne 11, 3) := by decide +kernel
theorem dX0_sumFrom_26 : decode cX0_sumFrom 26 = .ok (.aload_n 0, 1) := by decide +kernel
theorem dX0_sumFrom_27 : decode cX0_sumFrom 27 = .ok (.iload_n 1, 1) := by decide +kernel
theorem dX0_sumFrom_28 : decode cX0_sumFrom 28 = .ok (.invokevirtual 82, 3) := by decide +kernel
theorem dX0_sumFrom_31 : decode cX0_sumFrom 31 = .ok (.ifCond .ne 10, 3) := by decide +kernel
theorem dX0_sumFrom_34 : decode cX0_sumFrom 34 = .ok (.aload_n 0, 1) := by decide +kernel
theorem dX0_sumFrom_35 : decode cX0_sumFrom 35 = .ok (.getfield 27, 3) := by decide +kernel
theorem dX0_sumFrom_38 : decode cX0_sumFrom 38 = .ok (.iload_n 1, 1) := by decide +kernel
theorem dX0_sumFrom_39 : decode cX0_sumFrom 39 = .ok (.iaload, 1) := by decide +kernel
theorem dX0_sumFrom_40 : decode cX0_sumFrom 40 = .ok (.ireturn, 1) := by decide +kernel
theorem dX0_sumFrom_41 : decode cX0_sumFrom 41 = .ok (.aload_n 0, 1) := by decide +kernel
theorem dX0_sumFrom_42 : decode cX0_sumFrom 42 = .ok (.iload_n 1, 1) := by decide +kernel
theorem dX0_sumFrom_43 : decode cX0_sumFrom 43 = .ok (.invokevirtual 95, 3) := by decide +kernel
theorem dX0_sumFrom_46 : decode cX0_sumFrom 46 = .ok (.aload_n 0, 1) := by decide +kernel
theorem dX0_sumFrom_47 : decode cX0_sumFrom 47 = .ok (.iconst 2, 1) := by decide +kernel
theorem dX0_sumFrom_48 : decode cX0_sumFrom 48 = .ok (.iload_n 1, 1) := by decide +kernel
theorem dX0_sumFrom_49 : decode cX0_sumFrom 49 = .ok (.imul, 1) := by decide +kernel
theorem dX0_sumFrom_50 : decode cX0_sumFrom 50 = .ok (.iload_n 2, 1) := by decide +kernel
theorem dX0_sumFrom_51 : decode cX0_sumFrom 51 = .ok (.iload_n 3, 1) := by decide +kernel
theorem dX0_sumFrom_52 : decode cX0_sumFrom 52 = .ok (.invokevirtual 58, 3) := by decide +kernel
theorem dX0_sumFrom_55 : decode cX0_sumFrom 55 = .ok (.aload_n 0, 1) := by decide +kernel
theorem dX0_sumFrom_56 : decode cX0_sumFrom 56 = .ok (.iconst 2, 1) := by decide +kernel
theorem dX0_sumFrom_57 : decode cX0_sumFrom 57 = .ok (.iload_n 1, 1) := by decide +kernel
theorem dX0_sumFrom_58 : decode cX0_sumFrom 58 = .ok (.imul, 1) := by decide +kernel
theorem dX0_sumFrom_59 : decode cX0_sumFrom 59 = .ok (.iconst 1, 1) := by decide +kernel
theorem dX0_sumFrom_60 : decode cX0_sumFrom 60 = .ok (.iadd, 1) := by decide +kernel
theorem dX0_sumFrom_61 : decode cX0_sumFrom 61 = .ok (.iload_n 2, 1) := by decide +kernel
theorem dX0_sumFrom_62 : decode cX0_sumFrom 62 = .ok (.iload_n 3, 1) := by decide +kernel
theorem dX0_sumFrom_63 : decode cX0_sumFrom 63 = .ok (.invokevirtual 58, 3) := by decide +kernel
theorem dX0_sumFrom_66 : decode cX0_sumFrom 66 = .ok (.iadd, 1) := by decide +kernel
theorem dX0_sumFrom_67 : decode cX0_sumFrom 67 = .ok (.ireturn, 1) := by decide +kernel
set_option maxRecDepth 20000 in
theorem ggX0_greatestFrom_X0_countVisit : GoodIn wsX0_greatestFrom wsX0_countVisit := goodIn_r _ [10, 11, 12, 48, 49, 50, 51, 52, 53, 54, 55, 56] (by decide +kernel) (by decide +kernel)
set_option maxRecDepth 20000 in
theorem gX0_greatestFrom_X0_countVisit : GoodIn wsX0_greatestFrom (wsV RX0 85 RX0 yX0_countVisit wsX0_countVisit) := goodIn_app (goodIn_of _ (by decide +kernel)) ggX0_greatestFrom_X0_countVisit
set_option maxRecDepth 20000 in
theorem ggX0_greatestFrom_X0_isApart : GoodIn wsX0_greatestFrom wsX0_isApart := goodIn_r _ [16, 17, 18, 48, 49, 50, 51, 52, 53, 54, 55, 56] (by decide +kernel) (by decide +kernel)
set_option maxRecDepth 20000 in
theorem gX0_greatestFrom_X0_isApart : GoodIn wsX0_greatestFrom (wsV RX0 69 RX0 yX0_isApart wsX0_isApart) := goodIn_app (goodIn_of _ (by decide +kernel)) ggX0_greatestFrom_X0_isApart
set_option maxRecDepth 20000 in
theorem ggX0_greatestFrom_X0_isWithin : GoodIn wsX0_greatestFrom wsX0_isWithin := goodIn_r _ [22, 18, 17, 48, 49, 50, 51, 52, 53, 54, 55, 56] (by decide +kernel) (by decide +kernel)
set_option maxRecDepth 20000 in
theorem gX0_greatestFrom_X0_isWithin : GoodIn wsX0_greatestFrom (wsV RX0 88 RX0 yX0_isWithin wsX0_isWithin) := goodIn_app (goodIn_of _ (by decide +kernel)) ggX0_greatestFrom_X0_isWithin
set_option maxRecDepth 20000 in
theorem ggX0_greatestFrom_X0_hasParts : GoodIn wsX0_greatestFrom wsX0_hasParts := goodIn_r _ [26, 18, 17, 48, 49, 50, 51, 52, 53, 54, 55, 56] (by decide +kernel) (by decide +kernel)
set_option maxRecDepth 20000 in
theorem gX0_greatestFrom_X0_hasParts : GoodIn wsX0_greatestFrom (wsV RX0 82 RX0 yX0_hasParts wsX0_hasParts) := goodIn_app (goodIn_of _ (by decide +kernel)) ggX0_greatestFrom_X0_hasParts
set_option maxRecDepth 20000 in
theorem ggX0_greatestFrom_X0_catchUpBelow : GoodIn wsX0_greatestFrom wsX0_catchUpBelow := goodIn_r _ [30, 31, 32, 33, 9, 34, 1, 35, 36, 37, 38, 39, 40, 41, 42, 43, 44, 48, 49, 50, 51, 52, 53, 54, 55, 56] (by decide +kernel) (by decide +kernel)
set_option maxRecDepth 20000 in
theorem gX0_greatestFrom_X0_catchUpBelow : GoodIn wsX0_greatestFrom (wsV RX0 95 RX0 yX0_catchUpBelow wsX0_catchUpBelow) := goodIn_app (goodIn_of _ (by decide +kernel)) ggX0_greatestFrom_X0_catchUpBelow
set_option maxRecDepth 20000 in
theorem ggX0_greatestFrom_X0_greatestFrom : GoodIn wsX0_greatestFrom wsX0_greatestFrom := goodIn_r _ [0, 1, 2, 3, 4, 5, 6, 7, 8, 9, 10, 11, 12, 13, 14, 15, 16, 17, 18, 19, 20, 21, 22, 23, 24, 25, 26, 27, 28, 29, 30, 31, 32, 33, 34, 35, 36, 37, 38, 39, 40, 41, 42, 43, 44, 45, 46, 47, 48, 49, 50, 51, 52, 53, 54, 55, 56] (by decide +kernel) (by decide +kernel)
set_option maxRecDepth 20000 in
theorem gX0_greatestFrom_X0_greatestFrom : GoodIn wsX0_greatestFrom (wsV RX0 62 RX0 yX0_greatestFrom wsX0_greatestFrom) := goodIn_app (goodIn_of _ (by decide +kernel)) ggX0_greatestFrom_X0_greatestFrom
theorem dX0_greatestFrom_0 : decode cX0_greatestFrom 0 = .ok (.aload_n 0, 1) := by decide +kernel
theorem dX0_greatestFrom_1 : decode cX0_greatestFrom 1 = .ok (.invokevirtual 85, 3) := by decide +kernel
theorem dX0_greatestFrom_4 : decode cX0_greatestFrom 4 = .ok (.aload_n 0, 1) := by decide +kernel
theorem dX0_greatestFrom_5 : decode cX0_greatestFrom 5 = .ok (.iload_n 1, 1) := by decide +kernel
theorem dX0_greatestFrom_6 : decode cX0_greatestFrom 6 = .ok (.iload_n 2, 1) := by decide +kernel
theorem dX0_greatestFrom_7 : decode cX0_greatestFrom 7 = .ok (.iload_n 3, 1) := by decide +kernel
theorem dX0_greatestFrom_8 : decode cX0_greatestFrom 8 = .ok (.invokevirtual 69, 3) := by decide +kernel
theorem dX0_greatestFrom_11 : decode cX0_greatestFrom 11 = .ok (.ifCond .eq 5, 3) := by decide +kernel
theorem dX0_greatestFrom_14 : decode cX0_greatestFrom 14 = .ok (.iconst (-1), 1) := by decide +kernel
theorem dX0_greatestFrom_15 : decode cX0_greatestFrom 15 = .ok (.ireturn, 1) := by decide +kernel
theorem dX0_greatestFrom_16 : decode cX0_greatestFrom 16 = .ok (.aload_n 0, 1) := by decide +kernel
theorem dX0_greatestFrom_17 : decode cX0_greatestFrom 17 = .ok (.iload_n 1, 1) := by decide +kernel
theorem dX0_greatestFrom_18 : decode cX0_greatestFrom 18 = .ok (.iload_n 2, 1) := by decide +kernel
theorem dX0_greatestFrom_19 : decode cX0_greatestFrom 19 = .ok (.iload_n 3, 1) := by decide +kernel
theorem dX0_greatestFrom_20 : decode cX0_greatestFrom 20 = .ok (.invokevirtual 88, 3) := by decide +kernel
theorem dX0_greatestFrom_23 : decode cX0_greatestFrom 23 = .ok (.ifCond .ne 11, 3) := by decide +kernel
theorem dX0_greatestFrom_26 : decode cX0_greatestFrom 26 = .ok (.aload_n 0, 1) := by decide +kernel
theorem dX0_greatestFrom_27 : decode cX0_greatestFrom 27 = .ok (.iload_n 1, 1) := by decide +kernel
theorem dX0_greatestFrom_28 : decode cX0_greatestFrom 28 = .ok (.invokevirtual 82, 3) := by decide +kernel
theorem dX0_greatestFrom_31 : decode cX0_greatestFrom 31 = .ok (.ifCond .ne 10, 3) := by decide +kernel
theorem dX0_greatestFrom_34 : decode cX0_greatestFrom 34 = .ok (.aload_n 0, 1) := by decide +kernel
theorem dX0_greatestFrom_35 : decode cX0_greatestFrom 35 = .ok (.getfield 18, 3) := by decide +kernel
theorem dX0_greatestFrom_38 : decode cX0_greatestFrom 38 = .ok (.iload_n 1, 1) := by decide +kernel
theorem dX0_greatestFrom_39 : decode cX0_greatestFrom 39 = .ok (.iaload, 1) := by decide +kernel
theorem dX0_greatestFrom_40 : decode cX0_greatestFrom 40 = .ok (.ireturn, 1) := by decide +kernel
theorem dX0_greatestFrom_41 : decode cX0_greatestFrom 41 = .ok (.aload_n 0, 1) := by decide +kernel
theorem dX0_greatestFrom_42 : decode cX0_greatestFrom 42 = .ok (.iload_n 1, 1) := by decide +kernel
theorem dX0_greatestFrom_43 : decode cX0_greatestFrom 43 = .ok (.invokevirtual 95, 3) := by decide +kernel
theorem dX0_greatestFrom_46 : decode cX0_greatestFrom 46 = .ok (.aload_n 0, 1) := by decide +kernel
theorem dX0_greatestFrom_47 : decode cX0_greatestFrom 47 = .ok (.iconst 2, 1) := by decide +kernel
theorem dX0_greatestFrom_48 : decode cX0_greatestFrom 48 = .ok (.iload_n 1, 1) := by decide +kernel
theorem dX0_greatestFrom_49 : decode cX0_greatestFrom 49 = .ok (.imul, 1) := by decide +kernel
theorem dX0_greatestFrom_50 : decode cX0_greatestFrom 50 = .ok (.iload_n 2, 1) := by decide +kernel
theorem dX0_greatestFrom_51 : decode cX0_greatestFrom 51 = .ok (.iload_n 3, 1) := by decide +kernel
theorem dX0_greatestFrom_52 : decode cX0_greatestFrom 52 = .ok (.invokevirtual 62, 3) := by decide +kernel
theorem dX0_greatestFrom_55 : decode cX0_greatestFrom 55 = .ok (.aload_n 0, 1) := by decide +kernel
theorem dX0_greatestFrom_56 : decode cX0_greatestFrom 56 = .ok (.iconst 2, 1) := by decide +kernel
theorem dX0_greatestFrom_57 : decode cX0_greatestFrom 57 = .ok (.iload_n 1, 1) := by decide +kernel
theorem dX0_greatestFrom_58 : decode cX0_greatestFrom 58 = .ok (.imul, 1) := by decide +kernel
theorem dX0_greatestFrom_59 : decode cX0_greatestFrom 59 = .ok (.iconst 1, 1) := by decide +kernel
theorem dX0_greatestFrom_60 : decode cX0_greatestFrom 60 = .ok (.iadd, 1) := by decide +kernel
theorem dX0_greatestFrom_61 : decode cX0_greatestFrom 61 = .ok (.iload_n 2, 1) := by decide +kernel
theorem dX0_greatestFrom_62 : decode cX0_greatestFrom 62 = .ok (.iload_n 3, 1) := by decide +kernel
theorem dX0_greatestFrom_63 : decode cX0_greatestFrom 63 = .ok (.invokevirtual 62, 3) := by decide +kernel
theorem dX0_greatestFrom_66 : decode cX0_greatestFrom 66 = .ok (.invokestatic 101, 3) := by decide +kernel
theorem dX0_greatestFrom_69 : decode cX0_greatestFrom 69 = .ok (.ireturn, 1) := by decide +kernel
theorem dX0_pressDown_0 : decode cX0_pressDown 0 = .ok (.aload_n 0, 1) := by decide +kernel
theorem dX0_pressDown_1 : decode cX0_pressDown 1 = .ok (.getfield 27, 3) := by decide +kernel
theorem dX0_pressDown_4 : decode cX0_pressDown 4 = .ok (.iload_n 1, 1) := by decide +kernel
theorem dX0_pressDown_5 : decode cX0_pressDown 5 = .ok (.dup2, 1) := by decide +kernel
theorem dX0_pressDown_6 : decode cX0_pressDown 6 = .ok (.iaload, 1) := by decide +kernel
theorem dX0_pressDown_7 : decode cX0_pressDown 7 = .ok (.aload_n 0, 1) := by decide +kernel
theorem dX0_pressDown_8 : decode cX0_pressDown 8 = .ok (.getfield 18, 3) := by decide +kernel
theorem dX0_pressDown_11 : decode cX0_pressDown 11 = .ok (.iload_n 1, 1) := by decide +kernel
theorem dX0_pressDown_12 : decode cX0_pressDown 12 = .ok (.iaload, 1) := by decide +kernel
theorem dX0_pressDown_13 : decode cX0_pressDown 13 = .ok (.iload_n 2, 1) := by decide +kernel
theorem dX0_pressDown_14 : decode cX0_pressDown 14 = .ok (.isub, 1) := by decide +kernel
theorem dX0_pressDown_15 : decode cX0_pressDown 15 = .ok (.aload_n 0, 1) := by decide +kernel
theorem dX0_pressDown_16 : decode cX0_pressDown 16 = .ok (.getfield 24, 3) := by decide +kernel
theorem dX0_pressDown_19 : decode cX0_pressDown 19 = .ok (.iload_n 1, 1) := by decide +kernel
theorem dX0_pressDown_20 : decode cX0_pressDown 20 = .ok (.iaload, 1) := by decide +kernel
theorem dX0_pressDown_21 : decode cX0_pressDown 21 = .ok (.imul, 1) := by decide +kernel
theorem dX0_pressDown_22 : decode cX0_pressDown 22 = .ok (.isub, 1) := by decide +kernel
theorem dX0_pressDown_23 : decode cX0_pressDown 23 = .ok (.iastore, 1) := by decide +kernel
theorem dX0_pressDown_24 : decode cX0_pressDown 24 = .ok (.aload_n 0, 1) := by decide +kernel
theorem dX0_pressDown_25 : decode cX0_pressDown 25 = .ok (.getfield 18, 3) := by decide +kernel
theorem dX0_pressDown_28 : decode cX0_pressDown 28 = .ok (.iload_n 1, 1) := by decide +kernel
theorem dX0_pressDown_29 : decode cX0_pressDown 29 = .ok (.iload_n 2, 1) := by decide +kernel
theorem dX0_pressDown_30 : decode cX0_pressDown 30 = .ok (.iastore, 1) := by decide +kernel
theorem dX0_pressDown_31 : decode cX0_pressDown 31 = .ok (.return_, 1) := by decide +kernel
set_option maxRecDepth 20000 in
theorem ggX0_catchUpBelow_X0_catchUp : GoodIn wsX0_catchUpBelow wsX0_catchUp := goodIn_r _ [5, 6, 7, 8, 9, 4, 10, 11, 12, 13, 14, 15, 16, 17, 18, 19, 20, 21, 22, 23, 24, 25] (by decide +kernel) (by decide +kernel)
set_option maxRecDepth 20000 in
theorem gX0_catchUpBelow_X0_catchUp : GoodIn wsX0_catchUpBelow (wsV RX0 104 RX0 yX0_catchUp wsX0_catchUp) := goodIn_app (goodIn_of _ (by decide +kernel)) ggX0_catchUpBelow_X0_catchUp
theorem dX0_catchUpBelow_0 : decode cX0_catchUpBelow 0 = .ok (.aload_n 0, 1) := by decide +kernel
theorem dX0_catchUpBelow_1 : decode cX0_catchUpBelow 1 = .ok (.iconst 2, 1) := by decide +kernel
theorem dX0_catchUpBelow_2 : decode cX0_catchUpBelow 2 = .ok (.iload_n 1, 1) := by decide +kernel
theorem dX0_catchUpBelow_3 : decode cX0_catchUpBelow 3 = .ok (.imul, 1) := by decide +kernel
theorem dX0_catchUpBelow_4 : decode cX0_catchUpBelow 4 = .ok (.invokevirtual 104, 3) := by decide +kernel
theorem dX0_catchUpBelow_7 : decode cX0_catchUpBelow 7 = .ok (.aload_n 0, 1) := by decide +kernel
theorem dX0_catchUpBelow_8 : decode cX0_catchUpBelow 8 = .ok (.iconst 2, 1) := by decide +kernel
theorem dX0_catchUpBelow_9 : decode cX0_catchUpBelow 9 = .ok (.iload_n 1, 1) := by decide +kernel
theorem dX0_catchUpBelow_10 : decode cX0_catchUpBelow 10 = .ok (.imul, 1) := by decide +kernel
theorem dX0_catchUpBelow_11 : decode cX0_catchUpBelow 11 = .ok (.iconst 1, 1) := by decide +kernel
theorem dX0_catchUpBelow_12 : decode cX0_catchUpBelow 12 = .ok (.iadd, 1) := by decide +kernel
theorem dX0_catchUpBelow_13 : decode cX0_catchUpBelow 13 = .ok (.invokevirtual 104, 3) := by decide +kernel
theorem dX0_catchUpBelow_16 : decode cX0_catchUpBelow 16 = .ok (.return_, 1) := by decide +kernel
set_option maxRecDepth 20000 in
theorem ggX0_catchUp_X0_lags : GoodIn wsX0_catchUp wsX0_lags := goodIn_r _ [6, 1, 13, 14, 15, 16, 17, 18, 19, 20, 21] (by decide +kernel) (by decide +kernel)
set_option maxRecDepth 20000 in
theorem gX0_catchUp_X0_lags : GoodIn wsX0_catchUp (wsV RX0 79 RX0 yX0_lags wsX0_lags) := goodIn_app (goodIn_of _ (by decide +kernel)) ggX0_catchUp_X0_lags
set_option maxRecDepth 20000 in
theorem ggX0_catchUp_X0_pressDown : GoodIn wsX0_catchUp wsX0_pressDown := goodIn_r _ [10, 11, 1, 12, 13, 14, 15, 16, 17, 18, 19, 20, 21] (by decide +kernel) (by decide +kernel)
set_option maxRecDepth 20000 in
theorem gX0_catchUp_X0_pressDown : GoodIn wsX0_catchUp (wsV RX0 91 RX0 yX0_pressDown wsX0_pressDown) := goodIn_app (goodIn_of _ (by decide +kernel)) ggX0_catchUp_X0_pressDown
theorem dX0_catchUp_0 : decode cX0_catchUp 0 = .ok (.aload_n 0, 1) := by decide +kernel
theorem dX0_catchUp_1 : decode cX0_catchUp 1 = .ok (.iload_n 1, 1) := by decide +kernel
theorem dX0_catchUp_2 : decode cX0_catchUp 2 = .ok (.invokevirtual 79, 3) := by decide +kernel
theorem dX0_catchUp_5 : decode cX0_catchUp 5 = .ok (.ifCond .eq 16, 3) := by decide +kernel
theorem dX0_catchUp_8 : decode cX0_catchUp 8 = .ok (.aload_n 0, 1) := by decide +kernel
theorem dX0_catchUp_9 : decode cX0_catchUp 9 = .ok (.iload_n 1, 1) := by decide +kernel
theorem dX0_catchUp_10 : decode cX0_catchUp 10 = .ok (.aload_n 0, 1) := by decide +kernel
theorem dX0_catchUp_11 : decode cX0_catchUp 11 = .ok (.getfield 18, 3) := by decide +kernel
theorem dX0_catchUp_14 : decode cX0_catchUp 14 = .ok (.iload_n 1, 1) := by decide +kernel
theorem dX0_catchUp_15 : decode cX0_catchUp 15 = .ok (.iconst 2, 1) := by decide +kernel
theorem dX0_catchUp_16 : decode cX0_catchUp 16 = .ok (.idiv, 1) := by decide +kernel
theorem dX0_catchUp_17 : decode cX0_catchUp 17 = .ok (.iaload, 1) := by decide +kernel
theorem dX0_catchUp_18 : decode cX0_catchUp 18 = .ok (.invokevirtual 91, 3) := by decide +kernel
theorem dX0_catchUp_21 : decode cX0_catchUp 21 = .ok (.return_, 1) := by decide +kernel
set_option maxRecDepth 20000 in
theorem ggX0_tellAnew_X0_manyAt : GoodIn wsX0_tellAnew wsX0_manyAt := goodIn_r _ [13, 1, 6, 18, 19, 20, 21, 22, 23, 24, 25, 26] (by decide +kernel) (by decide +kernel)
set_option maxRecDepth 20000 in
theorem gX0_tellAnew_X0_manyAt : GoodIn wsX0_tellAnew (wsV RX0 107 RX0 yX0_manyAt wsX0_manyAt) := goodIn_app (goodIn_of _ (by decide +kernel)) ggX0_tellAnew_X0_manyAt
set_option maxRecDepth 20000 in
theorem ggX0_tellAnew_X0_greatestLessThan : GoodIn wsX0_tellAnew wsX0_greatestLessThan := goodIn_r _ [17, 1, 7, 18, 19, 20, 21, 22, 23, 24, 25, 26] (by decide +kernel) (by decide +kernel)
set_option maxRecDepth 20000 in
theorem gX0_tellAnew_X0_greatestLessThan : GoodIn wsX0_tellAnew (wsV RX0 110 RX0 yX0_greatestLessThan wsX0_greatestLessThan) := goodIn_app (goodIn_of _ (by decide +kernel)) ggX0_tellAnew_X0_greatestLessThan
theorem dX0_tellAnew_0 : decode cX0_tellAnew 0 = .ok (.iconst 2, 1) := by decide +kernel
theorem dX0_tellAnew_1 : decode cX0_tellAnew 1 = .ok (.iload_n 1, 1) := by decide +kernel
theorem dX0_tellAnew_2 : decode cX0_tellAnew 2 = .ok (.imul, 1) := by decide +kernel
theorem dX0_tellAnew_3 : decode cX0_tellAnew 3 = .ok (.istore_n 2, 1) := by decide +kernel
theorem dX0_tellAnew_4 : decode cX0_tellAnew 4 = .ok (.iload_n 2, 1) := by decide +kernel
theorem dX0_tellAnew_5 : decode cX0_tellAnew 5 = .ok (.iconst 1, 1) := by decide +kernel
theorem dX0_tellAnew_6 : decode cX0_tellAnew 6 = .ok (.iadd, 1) := by decide +kernel
theorem dX0_tellAnew_7 : decode cX0_tellAnew 7 = .ok (.istore_n 3, 1) := by decide +kernel
theorem dX0_tellAnew_8 : decode cX0_tellAnew 8 = .ok (.aload_n 0, 1) := by decide +kernel
theorem dX0_tellAnew_9 : decode cX0_tellAnew 9 = .ok (.getfield 18, 3) := by decide +kernel
theorem dX0_tellAnew_12 : decode cX0_tellAnew 12 = .ok (.iload_n 2, 1) := by decide +kernel
theorem dX0_tellAnew_13 : decode cX0_tellAnew 13 = .ok (.iaload, 1) := by decide +kernel
theorem dX0_tellAnew_14 : decode cX0_tellAnew 14 = .ok (.aload_n 0, 1) := by decide +kernel
theorem dX0_tellAnew_15 : decode cX0_tellAnew 15 = .ok (.getfield 18, 3) := by decide +kernel
theorem dX0_tellAnew_18 : decode cX0_tellAnew 18 = .ok (.iload_n 3, 1) := by decide +kernel
theorem dX0_tellAnew_19 : decode cX0_tellAnew 19 = .ok (.iaload, 1) := by decide +kernel
theorem dX0_tellAnew_20 : decode cX0_tellAnew 20 = .ok (.invokestatic 101, 3) := by decide +kernel
theorem dX0_tellAnew_23 : decode cX0_tellAnew 23 = .ok (.istore 4, 2) := by decide +kernel
theorem dX0_tellAnew_25 : decode cX0_tellAnew 25 = .ok (.aload_n 0, 1) := by decide +kernel
theorem dX0_tellAnew_26 : decode cX0_tellAnew 26 = .ok (.getfield 18, 3) := by decide +kernel
theorem dX0_tellAnew_29 : decode cX0_tellAnew 29 = .ok (.iload_n 1, 1) := by decide +kernel
theorem dX0_tellAnew_30 : decode cX0_tellAnew 30 = .ok (.iload 4, 2) := by decide +kernel
theorem dX0_tellAnew_32 : decode cX0_tellAnew 32 = .ok (.iastore, 1) := by decide +kernel
theorem dX0_tellAnew_33 : decode cX0_tellAnew 33 = .ok (.aload_n 0, 1) := by decide +kernel
theorem dX0_tellAnew_34 : decode cX0_tellAnew 34 = .ok (.getfield 24, 3) := by decide +kernel
theorem dX0_tellAnew_37 : decode cX0_tellAnew 37 = .ok (.iload_n 1, 1) := by decide +kernel
theorem dX0_tellAnew_38 : decode cX0_tellAnew 38 = .ok (.aload_n 0, 1) := by decide +kernel
theorem dX0_tellAnew_39 : decode cX0_tellAnew 39 = .ok (.iload_n 2, 1) := by decide +kernel
theorem dX0_tellAnew_40 : decode cX0_tellAnew 40 = .ok (.iload 4, 2) := by decide +kernel
theorem dX0_tellAnew_42 : decode cX0_tellAnew 42 = .ok (.invokevirtual 107, 3) := by decide +kernel
theorem dX0_tellAnew_45 : decode cX0_tellAnew 45 = .ok (.aload_n 0, 1) := by decide +kernel
theorem dX0_tellAnew_46 : decode cX0_tellAnew 46 = .ok (.iload_n 3, 1) := by decide +kernel
theorem dX0_tellAnew_47 : decode cX0_tellAnew 47 = .ok (.iload 4, 2) := by decide +kernel
theorem dX0_tellAnew_49 : decode cX0_tellAnew 49 = .ok (.invokevirtual 107, 3) := by decide +kernel
theorem dX0_tellAnew_52 : decode cX0_tellAnew 52 = .ok (.iadd, 1) := by decide +kernel
theorem dX0_tellAnew_53 : decode cX0_tellAnew 53 = .ok (.iastore, 1) := by decide +kernel
theorem dX0_tellAnew_54 : decode cX0_tellAnew 54 = .ok (.aload_n 0, 1) := by decide +kernel
theorem dX0_tellAnew_55 : decode cX0_tellAnew 55 = .ok (.getfield 21, 3) := by decide +kernel
theorem dX0_tellAnew_58 : decode cX0_tellAnew 58 = .ok (.iload_n 1, 1) := by decide +kernel
theorem dX0_tellAnew_59 : decode cX0_tellAnew 59 = .ok (.aload_n 0, 1) := by decide +kernel
theorem dX0_tellAnew_60 : decode cX0_tellAnew 60 = .ok (.iload 4, 2) := by decide +kernel
theorem dX0_tellAnew_62 : decode cX0_tellAnew 62 = .ok (.iload_n 2, 1) := by decide +kernel
theorem dX0_tellAnew_63 : decode cX0_tellAnew 63 = .ok (.invokevirtual 110, 3) := by decide +kernel
theorem dX0_tellAnew_66 : decode cX0_tellAnew 66 = .ok (.aload_n 0, 1) := by decide +kernel
theorem dX0_tellAnew_67 : decode cX0_tellAnew 67 = .ok (.iload 4, 2) := by decide +kernel
theorem dX0_tellAnew_69 : decode cX0_tellAnew 69 = .ok (.iload_n 3, 1) := by decide +kernel
theorem dX0_tellAnew_70 : decode cX0_tellAnew 70 = .ok (.invokevirtual 110, 3) := by decide +kernel
theorem dX0_tellAnew_73 : decode cX0_tellAnew 73 = .ok (.invokestatic 101, 3) := by decide +kernel
theorem dX0_tellAnew_76 : decode cX0_tellAnew 76 = .ok (.iastore, 1) := by decide +kernel
theorem dX0_tellAnew_77 : decode cX0_tellAnew 77 = .ok (.aload_n 0, 1) := by decide +kernel
theorem dX0_tellAnew_78 : decode cX0_tellAnew 78 = .ok (.getfield 27, 3) := by decide +kernel
theorem dX0_tellAnew_81 : decode cX0_tellAnew 81 = .ok (.iload_n 1, 1) := by decide +kernel
theorem dX0_tellAnew_82 : decode cX0_tellAnew 82 = .ok (.aload_n 0, 1) := by decide +kernel
theorem dX0_tellAnew_83 : decode cX0_tellAnew 83 = .ok (.getfield 27, 3) := by decide +kernel
theorem dX0_tellAnew_86 : decode cX0_tellAnew 86 = .ok (.iload_n 2, 1) := by decide +kernel
theorem dX0_tellAnew_87 : decode cX0_tellAnew 87 = .ok (.iaload, 1) := by decide +kernel
theorem dX0_tellAnew_88 : decode cX0_tellAnew 88 = .ok (.aload_n 0, 1) := by decide +kernel
theorem dX0_tellAnew_89 : decode cX0_tellAnew 89 = .ok (.getfield 27, 3) := by decide +kernel
theorem dX0_tellAnew_92 : decode cX0_tellAnew 92 = .ok (.iload_n 3, 1) := by decide +kernel
theorem dX0_tellAnew_93 : decode cX0_tellAnew 93 = .ok (.iaload, 1) := by decide +kernel
theorem dX0_tellAnew_94 : decode cX0_tellAnew 94 = .ok (.iadd, 1) := by decide +kernel
theorem dX0_tellAnew_95 : decode cX0_tellAnew 95 = .ok (.iastore, 1) := by decide +kernel
theorem dX0_tellAnew_96 : decode cX0_tellAnew 96 = .ok (.return_, 1) := by decide +kernel
theorem dX0_manyAt_0 : decode cX0_manyAt 0 = .ok (.aload_n 0, 1) := by decide +kernel
theorem dX0_manyAt_1 : decode cX0_manyAt 1 = .ok (.getfield 18, 3) := by decide +kernel
theorem dX0_manyAt_4 : decode cX0_manyAt 4 = .ok (.iload_n 1, 1) := by decide +kernel
theorem dX0_manyAt_5 : decode cX0_manyAt 5 = .ok (.iaload, 1) := by decide +kernel
theorem dX0_manyAt_6 : decode cX0_manyAt 6 = .ok (.iload_n 2, 1) := by decide +kernel
theorem dX0_manyAt_7 : decode cX0_manyAt 7 = .ok (.if_icmp .ne 12, 3) := by decide +kernel
theorem dX0_manyAt_10 : decode cX0_manyAt 10 = .ok (.aload_n 0, 1) := by decide +kernel
theorem dX0_manyAt_11 : decode cX0_manyAt 11 = .ok (.getfield 24, 3) := by decide +kernel
theorem dX0_manyAt_14 : decode cX0_manyAt 14 = .ok (.iload_n 1, 1) := by decide +kernel
theorem dX0_manyAt_15 : decode cX0_manyAt 15 = .ok (.iaload, 1) := by decide +kernel
theorem dX0_manyAt_16 : decode cX0_manyAt 16 = .ok (.goto 4, 3) := by decide +kernel
theorem dX0_manyAt_19 : decode cX0_manyAt 19 = .ok (.iconst 0, 1) := by decide +kernel
theorem dX0_manyAt_20 : decode cX0_manyAt 20 = .ok (.ireturn, 1) := by decide +kernel
theorem dX0_greatestLessThan_0 : decode cX0_greatestLessThan 0 = .ok (.aload_n 0, 1) := by decide +kernel
theorem dX0_greatestLessThan_1 : decode cX0_greatestLessThan 1 = .ok (.getfield 18, 3) := by decide +kernel
theorem dX0_greatestLessThan_4 : decode cX0_greatestLessThan 4 = .ok (.iload_n 2, 1) := by decide +kernel
theorem dX0_greatestLessThan_5 : decode cX0_greatestLessThan 5 = .ok (.iaload, 1) := by decide +kernel
theorem dX0_greatestLessThan_6 : decode cX0_greatestLessThan 6 = .ok (.iload_n 1, 1) := by decide +kernel
theorem dX0_greatestLessThan_7 : decode cX0_greatestLessThan 7 = .ok (.if_icmp .ge 12, 3) := by decide +kernel
theorem dX0_greatestLessThan_10 : decode cX0_greatestLessThan 10 = .ok (.aload_n 0, 1) := by decide +kernel
theorem dX0_greatestLessThan_11 : decode cX0_greatestLessThan 11 = .ok (.getfield 18, 3) := by decide +kernel
theorem dX0_greatestLessThan_14 : decode cX0_greatestLessThan 14 = .ok (.iload_n 2, 1) := by decide +kernel
theorem dX0_greatestLessThan_15 : decode cX0_greatestLessThan 15 = .ok (.iaload, 1) := by decide +kernel
theorem dX0_greatestLessThan_16 : decode cX0_greatestLessThan 16 = .ok (.goto 9, 3) := by decide +kernel
theorem dX0_greatestLessThan_19 : decode cX0_greatestLessThan 19 = .ok (.aload_n 0, 1) := by decide +kernel
theorem dX0_greatestLessThan_20 : decode cX0_greatestLessThan 20 = .ok (.getfield 21, 3) := by decide +kernel
theorem dX0_greatestLessThan_23 : decode cX0_greatestLessThan 23 = .ok (.iload_n 2, 1) := by decide +kernel
theorem dX0_greatestLessThan_24 : decode cX0_greatestLessThan 24 = .ok (.iaload, 1) := by decide +kernel
theorem dX0_greatestLessThan_25 : decode cX0_greatestLessThan 25 = .ok (.ireturn, 1) := by decide +kernel
theorem dX1_init_0 : decode cX1_init 0 = .ok (.aload_n 0, 1) := by decide +kernel
theorem dX1_init_1 : decode cX1_init 1 = .ok (.invokespecial 3, 3) := by decide +kernel
theorem dX1_init_4 : decode cX1_init 4 = .ok (.aload_n 0, 1) := by decide +kernel
theorem dX1_init_5 : decode cX1_init 5 = .ok (.bipush 64, 2) := by decide +kernel
theorem dX1_init_7 : decode cX1_init 7 = .ok (.newarray .int, 2) := by decide +kernel
theorem dX1_init_9 : decode cX1_init 9 = .ok (.putfield 9, 3) := by decide +kernel
theorem dX1_init_12 : decode cX1_init 12 = .ok (.aload_n 0, 1) := by decide +kernel
theorem dX1_init_13 : decode cX1_init 13 = .ok (.bipush 64, 2) := by decide +kernel
theorem dX1_init_15 : decode cX1_init 15 = .ok (.newarray .int, 2) := by decide +kernel
theorem dX1_init_17 : decode cX1_init 17 = .ok (.putfield 15, 3) := by decide +kernel
theorem dX1_init_20 : decode cX1_init 20 = .ok (.return_, 1) := by decide +kernel
theorem dX1_renew_0 : decode cX1_renew 0 = .ok (.aload_n 0, 1) := by decide +kernel
theorem dX1_renew_1 : decode cX1_renew 1 = .ok (.iload_n 1, 1) := by decide +kernel
theorem dX1_renew_2 : decode cX1_renew 2 = .ok (.putfield 18, 3) := by decide +kernel
theorem dX1_renew_5 : decode cX1_renew 5 = .ok (.aload_n 0, 1) := by decide +kernel
theorem dX1_renew_6 : decode cX1_renew 6 = .ok (.iload_n 1, 1) := by decide +kernel
theorem dX1_renew_7 : decode cX1_renew 7 = .ok (.iload_n 2, 1) := by decide +kernel
theorem dX1_renew_8 : decode cX1_renew 8 = .ok (.imul, 1) := by decide +kernel
theorem dX1_renew_9 : decode cX1_renew 9 = .ok (.putfield 22, 3) := by decide +kernel
theorem dX1_renew_12 : decode cX1_renew 12 = .ok (.iconst 0, 1) := by decide +kernel
theorem dX1_renew_13 : decode cX1_renew 13 = .ok (.istore_n 3, 1) := by decide +kernel
theorem dX1_renew_14 : decode cX1_renew 14 = .ok (.iload_n 3, 1) := by decide +kernel
theorem dX1_renew_15 : decode cX1_renew 15 = .ok (.bipush 64, 2) := by decide +kernel
theorem dX1_renew_17 : decode cX1_renew 17 = .ok (.if_icmp .ge 32, 3) := by decide +kernel
theorem dX1_renew_20 : decode cX1_renew 20 = .ok (.aload_n 0, 1) := by decide +kernel
theorem dX1_renew_21 : decode cX1_renew 21 = .ok (.getfield 9, 3) := by decide +kernel
theorem dX1_renew_24 : decode cX1_renew 24 = .ok (.iload_n 3, 1) := by decide +kernel
theorem dX1_renew_25 : decode cX1_renew 25 = .ok (.iload_n 3, 1) := by decide +kernel
theorem dX1_renew_26 : decode cX1_renew 26 = .ok (.iload_n 1, 1) := by decide +kernel
theorem dX1_renew_27 : decode cX1_renew 27 = .ok (.if_icmp .ge 7, 3) := by decide +kernel
theorem dX1_renew_30 : decode cX1_renew 30 = .ok (.iload_n 2, 1) := by decide +kernel
theorem dX1_renew_31 : decode cX1_renew 31 = .ok (.goto 4, 3) := by decide +kernel
theorem dX1_renew_34 : decode cX1_renew 34 = .ok (.iconst 0, 1) := by decide +kernel
theorem dX1_renew_35 : decode cX1_renew 35 = .ok (.iastore, 1) := by decide +kernel
theorem dX1_renew_36 : decode cX1_renew 36 = .ok (.aload_n 0, 1) := by decide +kernel
theorem dX1_renew_37 : decode cX1_renew 37 = .ok (.getfield 15, 3) := by decide +kernel
theorem dX1_renew_40 : decode cX1_renew 40 = .ok (.iload_n 3, 1) := by decide +kernel
theorem dX1_renew_41 : decode cX1_renew 41 = .ok (.iconst (-1), 1) := by decide +kernel
theorem dX1_renew_42 : decode cX1_renew 42 = .ok (.iastore, 1) := by decide +kernel
theorem dX1_renew_43 : decode cX1_renew 43 = .ok (.iinc 3 1, 3) := by decide +kernel
theorem dX1_renew_46 : decode cX1_renew 46 = .ok (.goto (-32), 3) := by decide +kernel
theorem dX1_renew_49 : decode cX1_renew 49 = .ok (.return_, 1) := by decide +kernel
theorem dX1_raise_0 : decode cX1_raise 0 = .ok (.aload_n 0, 1) := by decide +kernel
theorem dX1_raise_1 : decode cX1_raise 1 = .ok (.getfield 9, 3) := by decide +kernel
theorem dX1_raise_4 : decode cX1_raise 4 = .ok (.iload_n 1, 1) := by decide +kernel
theorem dX1_raise_5 : decode cX1_raise 5 = .ok (.dup2, 1) := by decide +kernel
theorem dX1_raise_6 : decode cX1_raise 6 = .ok (.iaload, 1) := by decide +kernel
theorem dX1_raise_7 : decode cX1_raise 7 = .ok (.iload_n 2, 1) := by decide +kernel
theorem dX1_raise_8 : decode cX1_raise 8 = .ok (.iadd, 1) := by decide +kernel
theorem dX1_raise_9 : decode cX1_raise 9 = .ok (.iastore, 1) := by decide +kernel
theorem dX1_raise_10 : decode cX1_raise 10 = .ok (.aload_n 0, 1) := by decide +kernel
theorem dX1_raise_11 : decode cX1_raise 11 = .ok (.getfield 15, 3) := by decide +kernel
theorem dX1_raise_14 : decode cX1_raise 14 = .ok (.iload_n 1, 1) := by decide +kernel
theorem dX1_raise_15 : decode cX1_raise 15 = .ok (.iconst (-1), 1) := by decide +kernel
theorem dX1_raise_16 : decode cX1_raise 16 = .ok (.iastore, 1) := by decide +kernel
theorem dX1_raise_17 : decode cX1_raise 17 = .ok (.aload_n 0, 1) := by decide +kernel
theorem dX1_raise_18 : decode cX1_raise 18 = .ok (.dup, 1) := by decide +kernel
theorem dX1_raise_19 : decode cX1_raise 19 = .ok (.getfield 22, 3) := by decide +kernel
theorem dX1_raise_22 : decode cX1_raise 22 = .ok (.iload_n 2, 1) := by decide +kernel
theorem dX1_raise_23 : decode cX1_raise 23 = .ok (.iadd, 1) := by decide +kernel
theorem dX1_raise_24 : decode cX1_raise 24 = .ok (.putfield 22, 3) := by decide +kernel
theorem dX1_raise_27 : decode cX1_raise 27 = .ok (.return_, 1) := by decide +kernel
theorem dX1_press_0 : decode cX1_press 0 = .ok (.iload_n 1, 1) := by decide +kernel
theorem dX1_press_1 : decode cX1_press 1 = .ok (.istore 4, 2) := by decide +kernel
theorem dX1_press_3 : decode cX1_press 3 = .ok (.iload 4, 2) := by decide +kernel
theorem dX1_press_5 : decode cX1_press 5 = .ok (.iload_n 2, 1) := by decide +kernel
theorem dX1_press_6 : decode cX1_press 6 = .ok (.if_icmp .gt 57, 3) := by decide +kernel
theorem dX1_press_9 : decode cX1_press 9 = .ok (.aload_n 0, 1) := by decide +kernel
theorem dX1_press_10 : decode cX1_press 10 = .ok (.getfield 9, 3) := by decide +kernel
theorem dX1_press_13 : decode cX1_press 13 = .ok (.iload 4, 2) := by decide +kernel
theorem dX1_press_15 : decode cX1_press 15 = .ok (.aload_n 0, 1) := by decide +kernel
theorem dX1_press_16 : decode cX1_press 16 = .ok (.getfield 9, 3) := by decide +kernel
theorem dX1_press_19 : decode cX1_press 19 = .ok (.iload 4, 2) := by decide +kernel
theorem dX1_press_21 : decode cX1_press 21 = .ok (.iaload, 1) := by decide +kernel
theorem dX1_press_22 : decode cX1_press 22 = .ok (.iload_n 3, 1) := by decide +kernel
theorem dX1_press_23 : decode cX1_press 23 = .ok (.invokestatic 25, 3) := by decide +kernel
theorem dX1_press_26 : decode cX1_press 26 = .ok (.iastore, 1) := by decide +kernel
theorem dX1_press_27 : decode cX1_press 27 = .ok (.aload_n 0, 1) := by decide +kernel
theorem dX1_press_28 : decode cX1_press 28 = .ok (.getfield 15, 3) := by decide +kernel
theorem dX1_press_31 : decode cX1_press 31 = .ok (.iload 4, 2) := by decide +kernel
theorem dX1_press_33 : decode cX1_press 33 = .ok (.iaload, 1) := by decide +kernel
theorem dX1_press_34 : decode cX1_press 34 = .ok (.iconst (-1), 1) := by decide +kernel
theorem dX1_press_35 : decode cX1_press 35 = .ok (.if_icmp .eq 14, 3) := by decide +kernel
theorem dX1_press_38 : decode cX1_press 38 = .ok (.iload_n 3, 1) := by decide +kernel
theorem dX1_press_39 : decode cX1_press 39 = .ok (.aload_n 0, 1) := by decide +kernel
theorem dX1_press_40 : decode cX1_press 40 = .ok (.getfield 15, 3) := by decide +kernel
theorem dX1_press_43 : decode cX1_press 43 = .ok (.iload 4, 2) := by decide +kernel
theorem dX1_press_45 : decode cX1_press 45 = .ok (.iaload, 1) := by decide +kernel
theorem dX1_press_46 : decode cX1_press 46 = .ok (.if_icmp .ge 11, 3) := by decide +kernel
theorem dX1_press_49 : decode cX1_press 49 = .ok (.aload_n 0, 1) := by decide +kernel
theorem dX1_press_50 : decode cX1_press 50 = .ok (.getfield 15, 3) := by decide +kernel
theorem dX1_press_53 : decode cX1_press 53 = .ok (.iload 4, 2) := by decide +kernel
theorem dX1_press_55 : decode cX1_press 55 = .ok (.iload_n 3, 1) := by decide +kernel
theorem dX1_press_56 : decode cX1_press 56 = .ok (.iastore, 1) := by decide +kernel
theorem dX1_press_57 : decode cX1_press 57 = .ok (.iinc 4 1, 3) := by decide +kernel
theorem dX1_press_60 : decode cX1_press 60 = .ok (.goto (-57), 3) := by decide +kernel
theorem dX1_press_63 : decode cX1_press 63 = .ok (.return_, 1) := by decide +kernel
theorem dX1_earthAbove_0 : decode cX1_earthAbove 0 = .ok (.iconst 0, 1) := by decide +kernel
theorem dX1_earthAbove_1 : decode cX1_earthAbove 1 = .ok (.istore 4, 2) := by decide +kernel
theorem dX1_earthAbove_3 : decode cX1_earthAbove 3 = .ok (.iload_n 1, 1) := by decide +kernel
theorem dX1_earthAbove_4 : decode cX1_earthAbove 4 = .ok (.istore 5, 2) := by decide +kernel
theorem dX1_earthAbove_6 : decode cX1_earthAbove 6 = .ok (.iload 5, 2) := by decide +kernel
theorem dX1_earthAbove_8 : decode cX1_earthAbove 8 = .ok (.iload_n 2, 1) := by decide +kernel
theorem dX1_earthAbove_9 : decode cX1_earthAbove 9 = .ok (.if_icmp .gt 27, 3) := by decide +kernel
theorem dX1_earthAbove_12 : decode cX1_earthAbove 12 = .ok (.iload 4, 2) := by decide +kernel
theorem dX1_earthAbove_14 : decode cX1_earthAbove 14 = .ok (.aload_n 0, 1) := by decide +kernel
theorem dX1_earthAbove_15 : decode cX1_earthAbove 15 = .ok (.getfield 9, 3) := by decide +kernel
theorem dX1_earthAbove_18 : decode cX1_earthAbove 18 = .ok (.iload 5, 2) := by decide +kernel
theorem dX1_earthAbove_20 : decode cX1_earthAbove 20 = .ok (.iaload, 1) := by decide +kernel
theorem dX1_earthAbove_21 : decode cX1_earthAbove 21 = .ok (.iload_n 3, 1) := by decide +kernel
theorem dX1_earthAbove_22 : decode cX1_earthAbove 22 = .ok (.isub, 1) := by decide +kernel
theorem dX1_earthAbove_23 : decode cX1_earthAbove 23 = .ok (.iconst 0, 1) := by decide +kernel
theorem dX1_earthAbove_24 : decode cX1_earthAbove 24 = .ok (.invokestatic 31, 3) := by decide +kernel
theorem dX1_earthAbove_27 : decode cX1_earthAbove 27 = .ok (.iadd, 1) := by decide +kernel
theorem dX1_earthAbove_28 : decode cX1_earthAbove 28 = .ok (.istore 4, 2) := by decide +kernel
theorem dX1_earthAbove_30 : decode cX1_earthAbove 30 = .ok (.iinc 5 1, 3) := by decide +kernel
theorem dX1_earthAbove_33 : decode cX1_earthAbove 33 = .ok (.goto (-27), 3) := by decide +kernel
theorem dX1_earthAbove_36 : decode cX1_earthAbove 36 = .ok (.iload 4, 2) := by decide +kernel
theorem dX1_earthAbove_38 : decode cX1_earthAbove 38 = .ok (.ireturn, 1) := by decide +kernel
set_option maxRecDepth 20000 in
theorem ggX1_highestCeilingFor_X1_earthAbove : GoodIn wsX1_highestCeilingFor wsX1_earthAbove := goodIn_r _ [5, 6, 7, 8, 9, 10, 11, 12, 13, 14] (by decide +kernel) (by decide +kernel)
set_option maxRecDepth 20000 in
theorem gX1_highestCeilingFor_X1_earthAbove : GoodIn wsX1_highestCeilingFor (wsV RX1 34 RX1 yX1_earthAbove wsX1_earthAbove) := goodIn_app (goodIn_of _ (by decide +kernel)) ggX1_highestCeilingFor_X1_earthAbove
theorem dX1_highestCeilingFor_0 : decode cX1_highestCeilingFor 0 = .ok (.aload_n 0, 1) := by decide +kernel
theorem dX1_highestCeilingFor_1 : decode cX1_highestCeilingFor 1 = .ok (.iload_n 1, 1) := by decide +kernel
theorem dX1_highestCeilingFor_2 : decode cX1_highestCeilingFor 2 = .ok (.iload_n 2, 1) := by decide +kernel
theorem dX1_highestCeilingFor_3 : decode cX1_highestCeilingFor 3 = .ok (.iconst 0, 1) := by decide +kernel
theorem dX1_highestCeilingFor_4 : decode cX1_highestCeilingFor 4 = .ok (.invokevirtual 34, 3) := by decide +kernel
theorem dX1_highestCeilingFor_7 : decode cX1_highestCeilingFor 7 = .ok (.iload_n 3, 1) := by decide +kernel
theorem dX1_highestCeilingFor_8 : decode cX1_highestCeilingFor 8 = .ok (.if_icmp .ge 5, 3) := by decide +kernel
theorem dX1_highestCeilingFor_11 : decode cX1_highestCeilingFor 11 = .ok (.iconst (-1), 1) := by decide +kernel
theorem dX1_highestCeilingFor_12 : decode cX1_highestCeilingFor 12 = .ok (.ireturn, 1) := by decide +kernel
theorem dX1_highestCeilingFor_13 : decode cX1_highestCeilingFor 13 = .ok (.iconst 0, 1) := by decide +kernel
theorem dX1_highestCeilingFor_14 : decode cX1_highestCeilingFor 14 = .ok (.istore 4, 2) := by decide +kernel
theorem dX1_highestCeilingFor_16 : decode cX1_highestCeilingFor 16 = .ok (.sipush 512, 3) := by decide +kernel
theorem dX1_highestCeilingFor_19 : decode cX1_highestCeilingFor 19 = .ok (.istore 5, 2) := by decide +kernel
theorem dX1_highestCeilingFor_21 : decode cX1_highestCeilingFor 21 = .ok (.iload 5, 2) := by decide +kernel
theorem dX1_highestCeilingFor_23 : decode cX1_highestCeilingFor 23 = .ok (.ifCond .le 34, 3) := by decide +kernel
theorem dX1_highestCeilingFor_26 : decode cX1_highestCeilingFor 26 = .ok (.aload_n 0, 1) := by decide +kernel
theorem dX1_highestCeilingFor_27 : decode cX1_highestCeilingFor 27 = .ok (.iload_n 1, 1) := by decide +kernel
theorem dX1_highestCeilingFor_28 : decode cX1_highestCeilingFor 28 = .ok (.iload_n 2, 1) := by decide +kernel
theorem dX1_highestCeilingFor_29 : decode cX1_highestCeilingFor 29 = .ok (.iload 4, 2) := by decide +kernel
theorem dX1_highestCeilingFor_31 : decode cX1_highestCeilingFor 31 = .ok (.iload 5, 2) := by decide +kernel
theorem dX1_highestCeilingFor_33 : decode cX1_highestCeilingFor 33 = .ok (.iadd, 1) := by decide +kernel
theorem dX1_highestCeilingFor_34 : decode cX1_highestCeilingFor 34 = .ok (.invokevirtual 34, 3) := by decide +kernel
theorem dX1_highestCeilingFor_37 : decode cX1_highestCeilingFor 37 = .ok (.iload_n 3, 1) := by decide +kernel
theorem dX1_highestCeilingFor_38 : decode cX1_highestCeilingFor 38 = .ok (.if_icmp .lt 10, 3) := by decide +kernel
theorem dX1_highestCeilingFor_41 : decode cX1_highestCeilingFor 41 = .ok (.iload 4, 2) := by decide +kernel
theorem dX1_highestCeilingFor_43 : decode cX1_highestCeilingFor 43 = .ok (.iload 5, 2) := by decide +kernel
theorem dX1_highestCeilingFor_45 : decode cX1_highestCeilingFor 45 = .ok (.iadd, 1) := by decide +kernel
theorem dX1_highestCeilingFor_46 : decode cX1_highestCeilingFor 46 = .ok (.istore 4, 2) := by decide +kernel
theorem dX1_highestCeilingFor_48 : decode cX1_highestCeilingFor 48 = .ok (.iload 5, 2) := by decide +kernel
theorem dX1_highestCeilingFor_50 : decode cX1_highestCeilingFor 50 = .ok (.iconst 2, 1) := by decide +kernel
theorem dX1_highestCeilingFor_51 : decode cX1_highestCeilingFor 51 = .ok (.idiv, 1) := by decide +kernel
theorem dX1_highestCeilingFor_52 : decode cX1_highestCeilingFor 52 = .ok (.istore 5, 2) := by decide +kernel
theorem dX1_highestCeilingFor_54 : decode cX1_highestCeilingFor 54 = .ok (.goto (-33), 3) := by decide +kernel
theorem dX1_highestCeilingFor_57 : decode cX1_highestCeilingFor 57 = .ok (.iload 4, 2) := by decide +kernel
theorem dX1_highestCeilingFor_59 : decode cX1_highestCeilingFor 59 = .ok (.ireturn, 1) := by decide +kernel
set_option maxRecDepth 20000 in
theorem ggX2_init_X0_init : GoodIn wsX2_init wsX0_init := goodIn_r _ [14, 15, 2, 3, 16, 17, 18, 19, 20, 21, 22, 53, 54, 55, 56, 57, 58, 59, 60, 61] (by decide +kernel) (by decide +kernel)
set_option maxRecDepth 20000 in
theorem gX2_init_X0_init_n11 : GoodIn wsX2_init (wsX0_init) := ggX2_init_X0_init
set_option maxRecDepth 20000 in
theorem ggX2_init_X1_init : GoodIn wsX2_init wsX1_init := goodIn_r _ [24, 25, 2, 3, 16, 26, 27, 65, 66, 67, 68] (by decide +kernel) (by decide +kernel)
set_option maxRecDepth 20000 in
theorem gX2_init_X1_init_n18 : GoodIn wsX2_init (wsX1_init) := ggX2_init_X1_init
set_option maxRecDepth 20000 in
theorem ggX2_init_X0_renew : GoodIn wsX2_init wsX0_renew := goodIn_r _ [31, 18, 17, 19, 20, 21, 22, 32, 33, 34, 35, 36, 37, 6, 38, 39, 40, 41, 42, 43, 44, 45, 46, 53, 54, 55, 56, 57, 58, 59, 60, 61] (by decide +kernel) (by decide +kernel)
set_option maxRecDepth 20000 in
theorem gX2_init_X0_renew : GoodIn wsX2_init (wsV RX2 23 RX0 yX0_renew wsX0_renew) := goodIn_app (goodIn_of _ (by decide +kernel)) ggX2_init_X0_renew
set_option maxRecDepth 20000 in
theorem ggX2_init_X1_renew : GoodIn wsX2_init wsX1_renew := goodIn_r _ [50, 51, 52, 26, 27, 65, 66, 67, 68] (by decide +kernel) (by decide +kernel)
set_option maxRecDepth 20000 in
theorem gX2_init_X1_renew : GoodIn wsX2_init (wsV RX2 27 RX1 yX1_renew wsX1_renew) := goodIn_app (goodIn_of _ (by decide +kernel)) ggX2_init_X1_renew
theorem dX2_init_0 : decode cX2_init 0 = .ok (.aload_n 0, 1) := by decide +kernel
theorem dX2_init_1 : decode cX2_init 1 = .ok (.invokespecial 3, 3) := by decide +kernel
theorem dX2_init_4 : decode cX2_init 4 = .ok (.aload_n 0, 1) := by decide +kernel
theorem dX2_init_5 : decode cX2_init 5 = .ok (.new 9, 3) := by decide +kernel
theorem dX2_init_8 : decode cX2_init 8 = .ok (.dup, 1) := by decide +kernel
theorem dX2_init_9 : decode cX2_init 9 = .ok (.invokespecial 11, 3) := by decide +kernel
theorem dX2_init_12 : decode cX2_init 12 = .ok (.putfield 12, 3) := by decide +kernel
theorem dX2_init_15 : decode cX2_init 15 = .ok (.aload_n 0, 1) := by decide +kernel
theorem dX2_init_16 : decode cX2_init 16 = .ok (.new 16, 3) := by decide +kernel
theorem dX2_init_19 : decode cX2_init 19 = .ok (.dup, 1) := by decide +kernel
theorem dX2_init_20 : decode cX2_init 20 = .ok (.invokespecial 18, 3) := by decide +kernel
theorem dX2_init_23 : decode cX2_init 23 = .ok (.putfield 19, 3) := by decide +kernel
theorem dX2_init_26 : decode cX2_init 26 = .ok (.aload_n 0, 1) := by decide +kernel
theorem dX2_init_27 : decode cX2_init 27 = .ok (.getfield 12, 3) := by decide +kernel
theorem dX2_init_30 : decode cX2_init 30 = .ok (.iconst 1, 1) := by decide +kernel
theorem dX2_init_31 : decode cX2_init 31 = .ok (.iconst 0, 1) := by decide +kernel
theorem dX2_init_32 : decode cX2_init 32 = .ok (.invokevirtual 23, 3) := by decide +kernel
theorem dX2_init_35 : decode cX2_init 35 = .ok (.aload_n 0, 1) := by decide +kernel
theorem dX2_init_36 : decode cX2_init 36 = .ok (.getfield 19, 3) := by decide +kernel
theorem dX2_init_39 : decode cX2_init 39 = .ok (.iconst 1, 1) := by decide +kernel
theorem dX2_init_40 : decode cX2_init 40 = .ok (.iconst 0, 1) := by decide +kernel
theorem dX2_init_41 : decode cX2_init 41 = .ok (.invokevirtual 27, 3) := by decide +kernel
theorem dX2_init_44 : decode cX2_init 44 = .ok (.aload_n 0, 1) := by decide +kernel
theorem dX2_init_45 : decode cX2_init 45 = .ok (.iconst 0, 1) := by decide +kernel
theorem dX2_init_46 : decode cX2_init 46 = .ok (.putfield 28, 3) := by decide +kernel
theorem dX2_init_49 : decode cX2_init 49 = .ok (.return_, 1) := by decide +kernel
set_option maxRecDepth 20000 in
theorem ggX2_layOut_X2_requireInRange : GoodIn wsX2_layOut wsX2_requireInRange := goodIn_r _ [7, 8, 9] (by decide +kernel) (by decide +kernel)
set_option maxRecDepth 20000 in
theorem gX2_layOut_X2_requireInRange : GoodIn wsX2_layOut (va_wsS RX2 32 yX2_requireInRange wsX2_requireInRange) := goodIn_app (goodIn_of _ (by decide +kernel)) ggX2_layOut_X2_requireInRange
set_option maxRecDepth 20000 in
theorem ggX2_layOut_X0_renew : GoodIn wsX2_layOut wsX0_renew := goodIn_r _ [14, 15, 16, 17, 18, 19, 20, 21, 22, 23, 24, 25, 26, 13, 27, 28, 29, 30, 31, 32, 33, 34, 35, 48, 49, 50, 51, 52, 53, 54, 55, 56] (by decide +kernel) (by decide +kernel)
set_option maxRecDepth 20000 in
theorem gX2_layOut_X0_renew : GoodIn wsX2_layOut (wsV RX2 23 RX0 yX0_renew wsX0_renew) := goodIn_app (goodIn_of _ (by decide +kernel)) ggX2_layOut_X0_renew
set_option maxRecDepth 20000 in
theorem ggX2_layOut_X1_renew : GoodIn wsX2_layOut wsX1_renew := goodIn_r _ [40, 41, 42, 43, 44, 57, 58, 59, 60] (by decide +kernel) (by decide +kernel)
set_option maxRecDepth 20000 in
theorem gX2_layOut_X1_renew : GoodIn wsX2_layOut (wsV RX2 27 RX1 yX1_renew wsX1_renew) := goodIn_app (goodIn_of _ (by decide +kernel)) ggX2_layOut_X1_renew
theorem dX2_layOut_0 : decode cX2_layOut 0 = .ok (.iload_n 1, 1) := by decide +kernel
theorem dX2_layOut_1 : decode cX2_layOut 1 = .ok (.iconst 1, 1) := by decide +kernel
theorem dX2_layOut_2 : decode cX2_layOut 2 = .ok (.bipush 64, 2) := by decide +kernel
theorem dX2_layOut_4 : decode cX2_layOut 4 = .ok (.invokestatic 32, 3) := by decide +kernel
theorem dX2_layOut_7 : decode cX2_layOut 7 = .ok (.iload_n 2, 1) := by decide +kernel
theorem dX2_layOut_8 : decode cX2_layOut 8 = .ok (.iconst 0, 1) := by decide +kernel
theorem dX2_layOut_9 : decode cX2_layOut 9 = .ok (.sipush 1000, 3) := by decide +kernel
theorem dX2_layOut_12 : decode cX2_layOut 12 = .ok (.invokestatic 32, 3) := by decide +kernel
theorem dX2_layOut_15 : decode cX2_layOut 15 = .ok (.aload_n 0, 1) := by decide +kernel
theorem dX2_layOut_16 : decode cX2_layOut 16 = .ok (.getfield 12, 3) := by decide +kernel
theorem dX2_layOut_19 : decode cX2_layOut 19 = .ok (.iload_n 1, 1) := by decide +kernel
theorem dX2_layOut_20 : decode cX2_layOut 20 = .ok (.iload_n 2, 1) := by decide +kernel
theorem dX2_layOut_21 : decode cX2_layOut 21 = .ok (.invokevirtual 23, 3) := by decide +kernel
theorem dX2_layOut_24 : decode cX2_layOut 24 = .ok (.aload_n 0, 1) := by decide +kernel
theorem dX2_layOut_25 : decode cX2_layOut 25 = .ok (.getfield 19, 3) := by decide +kernel
theorem dX2_layOut_28 : decode cX2_layOut 28 = .ok (.iload_n 1, 1) := by decide +kernel
theorem dX2_layOut_29 : decode cX2_layOut 29 = .ok (.iload_n 2, 1) := by decide +kernel
theorem dX2_layOut_30 : decode cX2_layOut 30 = .ok (.invokevirtual 27, 3) := by decide +kernel
theorem dX2_layOut_33 : decode cX2_layOut 33 = .ok (.aload_n 0, 1) := by decide +kernel
theorem dX2_layOut_34 : decode cX2_layOut 34 = .ok (.iconst 0, 1) := by decide +kernel
theorem dX2_layOut_35 : decode cX2_layOut 35 = .ok (.putfield 28, 3) := by decide +kernel
theorem dX2_layOut_38 : decode cX2_layOut 38 = .ok (.iload_n 1, 1) := by decide +kernel
theorem dX2_layOut_39 : decode cX2_layOut 39 = .ok (.iload_n 2, 1) := by decide +kernel
theorem dX2_layOut_40 : decode cX2_layOut 40 = .ok (.imul, 1) := by decide +kernel
theorem dX2_layOut_41 : decode cX2_layOut 41 = .ok (.ireturn, 1) := by decide +kernel
set_option maxRecDepth 20000 in
theorem ggX2_pile_X2_requireColumn : GoodIn wsX2_pile wsX2_requireColumn := goodIn_r _ [9, 10, 11, 3, 87, 88, 89, 90, 91, 92, 93] (by decide +kernel) (by decide +kernel)
set_option maxRecDepth 20000 in
theorem gX2_pile_X2_requireColumn : GoodIn wsX2_pile (wsV RX2 36 RX2 yX2_requireColumn wsX2_requireColumn) := goodIn_app (goodIn_of _ (by decide +kernel)) ggX2_pile_X2_requireColumn
set_option maxRecDepth 20000 in
theorem ggX2_pile_X2_requireInRange : GoodIn wsX2_pile wsX2_requireInRange := goodIn_r _ [14, 15, 16] (by decide +kernel) (by decide +kernel)
set_option maxRecDepth 20000 in
theorem gX2_pile_X2_requireInRange : GoodIn wsX2_pile (va_wsS RX2 32 yX2_requireInRange wsX2_requireInRange) := goodIn_app (goodIn_of _ (by decide +kernel)) ggX2_pile_X2_requireInRange
set_option maxRecDepth 20000 in
theorem ggX2_pile_X1_raise : GoodIn wsX2_pile wsX1_raise := goodIn_r _ [21, 22, 23, 24, 90, 91, 92, 93] (by decide +kernel) (by decide +kernel)
set_option maxRecDepth 20000 in
theorem gX2_pile_X1_raise : GoodIn wsX2_pile (wsV RX2 51 RX1 yX1_raise wsX1_raise) := goodIn_app (goodIn_of _ (by decide +kernel)) ggX2_pile_X1_raise
set_option maxRecDepth 20000 in
theorem ggX2_pile_X0_raise : GoodIn wsX2_pile wsX0_raise := goodIn_r _ [29, 30, 31, 32, 28, 33, 34, 35, 36, 37, 38, 39, 40, 41, 42, 43, 44, 45, 46, 47, 48, 49, 50, 51, 52, 53, 54, 55, 56, 57, 58, 59, 60, 61, 62, 63, 64, 65, 66, 67, 68, 69, 70, 71, 72, 73, 74, 75, 76, 77, 78, 79, 80, 81, 82, 83, 84, 85, 86, 94, 95, 96, 97, 98, 99, 100, 101, 102] (by decide +kernel) (by decide +kernel)
set_option maxRecDepth 20000 in
theorem gX2_pile_X0_raise : GoodIn wsX2_pile (wsV RX2 54 RX0 yX0_raise wsX0_raise) := goodIn_app (goodIn_of _ (by decide +kernel)) ggX2_pile_X0_raise
theorem dX2_pile_0 : decode cX2_pile 0 = .ok (.aload_n 0, 1) := by decide +kernel
theorem dX2_pile_1 : decode cX2_pile 1 = .ok (.iload_n 1, 1) := by decide +kernel
theorem dX2_pile_2 : decode cX2_pile 2 = .ok (.invokevirtual 36, 3) := by decide +kernel
theorem dX2_pile_5 : decode cX2_pile 5 = .ok (.iload_n 2, 1) := by decide +kernel
theorem dX2_pile_6 : decode cX2_pile 6 = .ok (.iconst 1, 1) := by decide +kernel
theorem dX2_pile_7 : decode cX2_pile 7 = .ok (.sipush 1000, 3) := by decide +kernel
theorem dX2_pile_10 : decode cX2_pile 10 = .ok (.invokestatic 32, 3) := by decide +kernel
theorem dX2_pile_13 : decode cX2_pile 13 = .ok (.aload_n 0, 1) := by decide +kernel
theorem dX2_pile_14 : decode cX2_pile 14 = .ok (.getfield 19, 3) := by decide +kernel
theorem dX2_pile_17 : decode cX2_pile 17 = .ok (.getfield 40, 3) := by decide +kernel
theorem dX2_pile_20 : decode cX2_pile 20 = .ok (.iload_n 1, 1) := by decide +kernel
theorem dX2_pile_21 : decode cX2_pile 21 = .ok (.iaload, 1) := by decide +kernel
theorem dX2_pile_22 : decode cX2_pile 22 = .ok (.iload_n 2, 1) := by decide +kernel
theorem dX2_pile_23 : decode cX2_pile 23 = .ok (.iadd, 1) := by decide +kernel
theorem dX2_pile_24 : decode cX2_pile 24 = .ok (.istore_n 3, 1) := by decide +kernel
theorem dX2_pile_25 : decode cX2_pile 25 = .ok (.iload_n 3, 1) := by decide +kernel
theorem dX2_pile_26 : decode cX2_pile 26 = .ok (.sipush 1000, 3) := by decide +kernel
theorem dX2_pile_29 : decode cX2_pile 29 = .ok (.if_icmp .le 13, 3) := by decide +kernel
theorem dX2_pile_32 : decode cX2_pile 32 = .ok (.new 44, 3) := by decide +kernel
theorem dX2_pile_35 : decode cX2_pile 35 = .ok (.dup, 1) := by decide +kernel
theorem dX2_pile_36 : decode cX2_pile 36 = .ok (.ldc 46, 2) := by decide +kernel
theorem dX2_pile_38 : decode cX2_pile 38 = .ok (.invokespecial 48, 3) := by decide +kernel
theorem dX2_pile_41 : decode cX2_pile 41 = .ok (.athrow, 1) := by decide +kernel
theorem dX2_pile_42 : decode cX2_pile 42 = .ok (.aload_n 0, 1) := by decide +kernel
theorem dX2_pile_43 : decode cX2_pile 43 = .ok (.getfield 19, 3) := by decide +kernel
theorem dX2_pile_46 : decode cX2_pile 46 = .ok (.iload_n 1, 1) := by decide +kernel
theorem dX2_pile_47 : decode cX2_pile 47 = .ok (.iload_n 2, 1) := by decide +kernel
theorem dX2_pile_48 : decode cX2_pile 48 = .ok (.invokevirtual 51, 3) := by decide +kernel
theorem dX2_pile_51 : decode cX2_pile 51 = .ok (.aload_n 0, 1) := by decide +kernel
theorem dX2_pile_52 : decode cX2_pile 52 = .ok (.getfield 12, 3) := by decide +kernel
theorem dX2_pile_55 : decode cX2_pile 55 = .ok (.iload_n 1, 1) := by decide +kernel
theorem dX2_pile_56 : decode cX2_pile 56 = .ok (.iload_n 3, 1) := by decide +kernel
theorem dX2_pile_57 : decode cX2_pile 57 = .ok (.invokevirtual 54, 3) := by decide +kernel
theorem dX2_pile_60 : decode cX2_pile 60 = .ok (.iload_n 3, 1) := by decide +kernel
theorem dX2_pile_61 : decode cX2_pile 61 = .ok (.ireturn, 1) := by decide +kernel
set_option maxRecDepth 20000 in
theorem ggX2_lower_X2_requireSpan : GoodIn wsX2_lower wsX2_requireSpan := goodIn_r _ [8, 9, 10, 11, 12, 13, 7, 14, 15, 16, 2, 100, 101, 102, 103, 104, 105, 106] (by decide +kernel) (by decide +kernel)
set_option maxRecDepth 20000 in
theorem gX2_lower_X2_requireSpan : GoodIn wsX2_lower (wsV RX2 55 RX2 yX2_requireSpan wsX2_requireSpan) := goodIn_app (goodIn_of _ (by decide +kernel)) ggX2_lower_X2_requireSpan
set_option maxRecDepth 20000 in
theorem ggX2_lower_X2_requireInRange : GoodIn wsX2_lower wsX2_requireInRange := goodIn_r _ [19, 9, 10] (by decide +kernel) (by decide +kernel)
set_option maxRecDepth 20000 in
theorem gX2_lower_X2_requireInRange : GoodIn wsX2_lower (va_wsS RX2 32 yX2_requireInRange wsX2_requireInRange) := goodIn_app (goodIn_of _ (by decide +kernel)) ggX2_lower_X2_requireInRange
set_option maxRecDepth 20000 in
theorem ggX2_lower_X0_press : GoodIn wsX2_lower wsX0_press := goodIn_r _ [24, 25, 26, 27, 28, 23, 29, 30, 31, 32, 33, 34, 35, 36, 37, 38, 39, 40, 41, 42, 43, 44, 45, 46, 47, 48, 49, 50, 51, 52, 53, 54, 55, 56, 57, 58, 59, 60, 61, 62, 63, 64, 65, 66, 67, 68, 69, 70, 71, 72, 73, 74, 75, 76, 77, 78, 79, 80, 81, 82, 83, 84, 85, 86, 87, 88, 89, 107, 108, 109, 110, 111, 112, 113, 114, 115] (by decide +kernel) (by decide +kernel)
set_option maxRecDepth 20000 in
theorem gX2_lower_X0_press : GoodIn wsX2_lower (wsV RX2 58 RX0 yX0_press wsX0_press) := goodIn_app (goodIn_of _ (by decide +kernel)) ggX2_lower_X0_press
set_option maxRecDepth 20000 in
theorem ggX2_lower_X1_press : GoodIn wsX2_lower wsX1_press := goodIn_r _ [94, 95, 96, 97, 80, 98, 99, 103, 104, 105, 106] (by decide +kernel) (by decide +kernel)
set_option maxRecDepth 20000 in
theorem gX2_lower_X1_press : GoodIn wsX2_lower (wsV RX2 62 RX1 yX1_press wsX1_press) := goodIn_app (goodIn_of _ (by decide +kernel)) ggX2_lower_X1_press
theorem dX2_lower_0 : decode cX2_lower 0 = .ok (.aload_n 0, 1) := by decide +kernel
theorem dX2_lower_1 : decode cX2_lower 1 = .ok (.iload_n 1, 1) := by decide +kernel
theorem dX2_lower_2 : decode cX2_lower 2 = .ok (.iload_n 2, 1) := by decide +kernel
theorem dX2_lower_3 : decode cX2_lower 3 = .ok (.invokevirtual 55, 3) := by decide +kernel
theorem dX2_lower_6 : decode cX2_lower 6 = .ok (.iload_n 3, 1) := by decide +kernel
theorem dX2_lower_7 : decode cX2_lower 7 = .ok (.iconst 0, 1) := by decide +kernel
theorem dX2_lower_8 : decode cX2_lower 8 = .ok (.sipush 1000, 3) := by decide +kernel
theorem dX2_lower_11 : decode cX2_lower 11 = .ok (.invokestatic 32, 3) := by decide +kernel
theorem dX2_lower_14 : decode cX2_lower 14 = .ok (.aload_n 0, 1) := by decide +kernel
theorem dX2_lower_15 : decode cX2_lower 15 = .ok (.getfield 12, 3) := by decide +kernel
theorem dX2_lower_18 : decode cX2_lower 18 = .ok (.iload_n 1, 1) := by decide +kernel
theorem dX2_lower_19 : decode cX2_lower 19 = .ok (.iload_n 2, 1) := by decide +kernel
theorem dX2_lower_20 : decode cX2_lower 20 = .ok (.iload_n 3, 1) := by decide +kernel
theorem dX2_lower_21 : decode cX2_lower 21 = .ok (.invokevirtual 58, 3) := by decide +kernel
theorem dX2_lower_24 : decode cX2_lower 24 = .ok (.istore 4, 2) := by decide +kernel
theorem dX2_lower_26 : decode cX2_lower 26 = .ok (.aload_n 0, 1) := by decide +kernel
theorem dX2_lower_27 : decode cX2_lower 27 = .ok (.getfield 19, 3) := by decide +kernel
theorem dX2_lower_30 : decode cX2_lower 30 = .ok (.iload_n 1, 1) := by decide +kernel
theorem dX2_lower_31 : decode cX2_lower 31 = .ok (.iload_n 2, 1) := by decide +kernel
theorem dX2_lower_32 : decode cX2_lower 32 = .ok (.iload_n 3, 1) := by decide +kernel
theorem dX2_lower_33 : decode cX2_lower 33 = .ok (.invokevirtual 62, 3) := by decide +kernel
theorem dX2_lower_36 : decode cX2_lower 36 = .ok (.aload_n 0, 1) := by decide +kernel
theorem dX2_lower_37 : decode cX2_lower 37 = .ok (.dup, 1) := by decide +kernel
theorem dX2_lower_38 : decode cX2_lower 38 = .ok (.getfield 28, 3) := by decide +kernel
theorem dX2_lower_41 : decode cX2_lower 41 = .ok (.iload 4, 2) := by decide +kernel
theorem dX2_lower_43 : decode cX2_lower 43 = .ok (.iadd, 1) := by decide +kernel
theorem dX2_lower_44 : decode cX2_lower 44 = .ok (.putfield 28, 3) := by decide +kernel
theorem dX2_lower_47 : decode cX2_lower 47 = .ok (.iload 4, 2) := by decide +kernel
theorem dX2_lower_49 : decode cX2_lower 49 = .ok (.ireturn, 1) := by decide +kernel
set_option maxRecDepth 20000 in
theorem ggX2_earth_X2_requireSpan : GoodIn wsX2_earth wsX2_requireSpan := goodIn_r _ [6, 7, 8, 9, 10, 11, 5, 12, 13, 14, 15, 69, 70, 71, 72, 73, 74, 75] (by decide +kernel) (by decide +kernel)
set_option maxRecDepth 20000 in
theorem gX2_earth_X2_requireSpan : GoodIn wsX2_earth (wsV RX2 55 RX2 yX2_requireSpan wsX2_requireSpan) := goodIn_app (goodIn_of _ (by decide +kernel)) ggX2_earth_X2_requireSpan
set_option maxRecDepth 20000 in
theorem ggX2_earth_X0_askSum : GoodIn wsX2_earth wsX0_askSum := goodIn_r _ [20, 21, 22, 23, 19, 24, 25, 26, 27, 28, 29, 30, 31, 32, 33, 34, 35, 36, 37, 38, 39, 40, 41, 42, 43, 44, 45, 46, 47, 48, 49, 50, 51, 52, 53, 54, 55, 56, 57, 58, 59, 60, 61, 62, 63, 64, 65, 66, 67, 68, 76, 77, 78, 79, 80, 81, 82, 83, 84] (by decide +kernel) (by decide +kernel)
set_option maxRecDepth 20000 in
theorem gX2_earth_X0_askSum : GoodIn wsX2_earth (wsV RX2 64 RX0 yX0_askSum wsX0_askSum) := goodIn_app (goodIn_of _ (by decide +kernel)) ggX2_earth_X0_askSum
theorem dX2_earth_0 : decode cX2_earth 0 = .ok (.aload_n 0, 1) := by decide +kernel
theorem dX2_earth_1 : decode cX2_earth 1 = .ok (.iload_n 1, 1) := by decide +kernel
theorem dX2_earth_2 : decode cX2_earth 2 = .ok (.iload_n 2, 1) := by decide +kernel
theorem dX2_earth_3 : decode cX2_earth 3 = .ok (.invokevirtual 55, 3) := by decide +kernel
theorem dX2_earth_6 : decode cX2_earth 6 = .ok (.aload_n 0, 1) := by decide +kernel
theorem dX2_earth_7 : decode cX2_earth 7 = .ok (.getfield 12, 3) := by decide +kernel
theorem dX2_earth_10 : decode cX2_earth 10 = .ok (.iload_n 1, 1) := by decide +kernel
theorem dX2_earth_11 : decode cX2_earth 11 = .ok (.iload_n 2, 1) := by decide +kernel
theorem dX2_earth_12 : decode cX2_earth 12 = .ok (.invokevirtual 64, 3) := by decide +kernel
theorem dX2_earth_15 : decode cX2_earth 15 = .ok (.ireturn, 1) := by decide +kernel
set_option maxRecDepth 20000 in
theorem ggX2_earthByColumns_X2_requireSpan : GoodIn wsX2_earthByColumns wsX2_requireSpan := goodIn_r _ [6, 7, 8, 9, 10, 11, 5, 12, 13, 14, 1, 25, 26, 27, 28, 29, 30, 31] (by decide +kernel) (by decide +kernel)
set_option maxRecDepth 20000 in
theorem gX2_earthByColumns_X2_requireSpan : GoodIn wsX2_earthByColumns (wsV RX2 55 RX2 yX2_requireSpan wsX2_requireSpan) := goodIn_app (goodIn_of _ (by decide +kernel)) ggX2_earthByColumns_X2_requireSpan
set_option maxRecDepth 20000 in
theorem ggX2_earthByColumns_X1_earthAbove : GoodIn wsX2_earthByColumns wsX1_earthAbove := goodIn_r _ [19, 20, 21, 22, 23, 24, 28, 29, 30, 31] (by decide +kernel) (by decide +kernel)
set_option maxRecDepth 20000 in
theorem gX2_earthByColumns_X1_earthAbove : GoodIn wsX2_earthByColumns (wsV RX2 68 RX1 yX1_earthAbove wsX1_earthAbove) := goodIn_app (goodIn_of _ (by decide +kernel)) ggX2_earthByColumns_X1_earthAbove
theorem dX2_earthByColumns_0 : decode cX2_earthByColumns 0 = .ok (.aload_n 0, 1) := by decide +kernel
theorem dX2_earthByColumns_1 : decode cX2_earthByColumns 1 = .ok (.iload_n 1, 1) := by decide +kernel
theorem dX2_earthByColumns_2 : decode cX2_earthByColumns 2 = .ok (.iload_n 2, 1) := by decide +kernel
theorem dX2_earthByColumns_3 : decode cX2_earthByColumns 3 = .ok (.invokevirtual 55, 3) := by decide +kernel
theorem dX2_earthByColumns_6 : decode cX2_earthByColumns 6 = .ok (.aload_n 0, 1) := by decide +kernel
theorem dX2_earthByColumns_7 : decode cX2_earthByColumns 7 = .ok (.getfield 19, 3) := by decide +kernel
theorem dX2_earthByColumns_10 : decode cX2_earthByColumns 10 = .ok (.iload_n 1, 1) := by decide +kernel
theorem dX2_earthByColumns_11 : decode cX2_earthByColumns 11 = .ok (.iload_n 2, 1) := by decide +kernel
theorem dX2_earthByColumns_12 : decode cX2_earthByColumns 12 = .ok (.iconst 0, 1) := by decide +kernel
theorem dX2_earthByColumns_13 : decode cX2_earthByColumns 13 = .ok (.invokevirtual 68, 3) := by decide +kernel
theorem dX2_earthByColumns_16 : decode cX2_earthByColumns 16 = .ok (.ireturn, 1) := by decide +kernel
set_option maxRecDepth 20000 in
theorem ggX2_top_X2_requireSpan : GoodIn wsX2_top wsX2_requireSpan := goodIn_r _ [6, 7, 8, 9, 10, 11, 5, 12, 13, 14, 15, 73, 74, 75, 76, 77, 78, 79] (by decide +kernel) (by decide +kernel)
set_option maxRecDepth 20000 in
theorem gX2_top_X2_requireSpan : GoodIn wsX2_top (wsV RX2 55 RX2 yX2_requireSpan wsX2_requireSpan) := goodIn_app (goodIn_of _ (by decide +kernel)) ggX2_top_X2_requireSpan
set_option maxRecDepth 20000 in
theorem ggX2_top_X0_askGreatest : GoodIn wsX2_top wsX0_askGreatest := goodIn_r _ [20, 21, 22, 23, 19, 24, 25, 26, 27, 28, 29, 30, 31, 32, 33, 34, 35, 36, 37, 38, 39, 40, 41, 42, 43, 44, 45, 46, 47, 48, 49, 50, 51, 52, 53, 54, 55, 56, 57, 58, 59, 60, 61, 62, 63, 64, 65, 66, 67, 68, 69, 70, 71, 72, 80, 81, 82, 83, 84, 85, 86, 87, 88] (by decide +kernel) (by decide +kernel)
set_option maxRecDepth 20000 in
theorem gX2_top_X0_askGreatest : GoodIn wsX2_top (wsV RX2 71 RX0 yX0_askGreatest wsX0_askGreatest) := goodIn_app (goodIn_of _ (by decide +kernel)) ggX2_top_X0_askGreatest
theorem dX2_top_0 : decode cX2_top 0 = .ok (.aload_n 0, 1) := by decide +kernel
theorem dX2_top_1 : decode cX2_top 1 = .ok (.iload_n 1, 1) := by decide +kernel
theorem dX2_top_2 : decode cX2_top 2 = .ok (.iload_n 2, 1) := by decide +kernel
theorem dX2_top_3 : decode cX2_top 3 = .ok (.invokevirtual 55, 3) := by decide +kernel
theorem dX2_top_6 : decode cX2_top 6 = .ok (.aload_n 0, 1) := by decide +kernel
theorem dX2_top_7 : decode cX2_top 7 = .ok (.getfield 12, 3) := by decide +kernel
theorem dX2_top_10 : decode cX2_top 10 = .ok (.iload_n 1, 1) := by decide +kernel
theorem dX2_top_11 : decode cX2_top 11 = .ok (.iload_n 2, 1) := by decide +kernel
theorem dX2_top_12 : decode cX2_top 12 = .ok (.invokevirtual 71, 3) := by decide +kernel
theorem dX2_top_15 : decode cX2_top 15 = .ok (.ireturn, 1) := by decide +kernel
set_option maxRecDepth 20000 in
theorem ggX2_height_X2_requireColumn : GoodIn wsX2_height wsX2_requireColumn := goodIn_r _ [6, 7, 8, 9, 30, 31, 32, 33, 34, 35, 36] (by decide +kernel) (by decide +kernel)
set_option maxRecDepth 20000 in
theorem gX2_height_X2_requireColumn : GoodIn wsX2_height (wsV RX2 36 RX2 yX2_requireColumn wsX2_requireColumn) := goodIn_app (goodIn_of _ (by decide +kernel)) ggX2_height_X2_requireColumn
set_option maxRecDepth 20000 in
theorem ggX2_height_X0_leastGreatestOver : GoodIn wsX2_height wsX0_leastGreatestOver := goodIn_r _ [14, 15, 16, 17, 18, 19, 20, 21, 22, 13, 23, 24, 25, 26, 27, 28, 29, 37, 38, 39, 40, 41, 42, 43, 44, 45] (by decide +kernel) (by decide +kernel)
set_option maxRecDepth 20000 in
theorem gX2_height_X0_leastGreatestOver : GoodIn wsX2_height (wsV RX2 74 RX0 yX0_leastGreatestOver wsX0_leastGreatestOver) := goodIn_app (goodIn_of _ (by decide +kernel)) ggX2_height_X0_leastGreatestOver
theorem dX2_height_0 : decode cX2_height 0 = .ok (.aload_n 0, 1) := by decide +kernel
theorem dX2_height_1 : decode cX2_height 1 = .ok (.iload_n 1, 1) := by decide +kernel
theorem dX2_height_2 : decode cX2_height 2 = .ok (.invokevirtual 36, 3) := by decide +kernel
theorem dX2_height_5 : decode cX2_height 5 = .ok (.aload_n 0, 1) := by decide +kernel
theorem dX2_height_6 : decode cX2_height 6 = .ok (.getfield 12, 3) := by decide +kernel
theorem dX2_height_9 : decode cX2_height 9 = .ok (.iload_n 1, 1) := by decide +kernel
theorem dX2_height_10 : decode cX2_height 10 = .ok (.invokevirtual 74, 3) := by decide +kernel
theorem dX2_height_13 : decode cX2_height 13 = .ok (.ireturn, 1) := by decide +kernel
set_option maxRecDepth 20000 in
theorem ggX2_heightOfColumn_X2_requireColumn : GoodIn wsX2_heightOfColumn wsX2_requireColumn := goodIn_r _ [6, 7, 8, 1, 9, 10, 11, 12, 13, 14, 15] (by decide +kernel) (by decide +kernel)
set_option maxRecDepth 20000 in
theorem gX2_heightOfColumn_X2_requireColumn : GoodIn wsX2_heightOfColumn (wsV RX2 36 RX2 yX2_requireColumn wsX2_requireColumn) := goodIn_app (goodIn_of _ (by decide +kernel)) ggX2_heightOfColumn_X2_requireColumn
theorem dX2_heightOfColumn_0 : decode cX2_heightOfColumn 0 = .ok (.aload_n 0, 1) := by decide +kernel
theorem dX2_heightOfColumn_1 : decode cX2_heightOfColumn 1 = .ok (.iload_n 1, 1) := by decide +kernel
theorem dX2_heightOfColumn_2 : decode cX2_heightOfColumn 2 = .ok (.invokevirtual 36, 3) := by decide +kernel
theorem dX2_heightOfColumn_5 : decode cX2_heightOfColumn 5 = .ok (.aload_n 0, 1) := by decide +kernel
theorem dX2_heightOfColumn_6 : decode cX2_heightOfColumn 6 = .ok (.getfield 19, 3) := by decide +kernel
theorem dX2_heightOfColumn_9 : decode cX2_heightOfColumn 9 = .ok (.getfield 40, 3) := by decide +kernel
theorem dX2_heightOfColumn_12 : decode cX2_heightOfColumn 12 = .ok (.iload_n 1, 1) := by decide +kernel
theorem dX2_heightOfColumn_13 : decode cX2_heightOfColumn 13 = .ok (.iaload, 1) := by decide +kernel
theorem dX2_heightOfColumn_14 : decode cX2_heightOfColumn 14 = .ok (.ireturn, 1) := by decide +kernel
set_option maxRecDepth 20000 in
theorem ggX2_wouldPress_X2_requireSpan : GoodIn wsX2_wouldPress wsX2_requireSpan := goodIn_r _ [6, 7, 8, 9, 10, 11, 5, 12, 13, 14, 1, 28, 29, 30, 31, 32, 33, 34] (by decide +kernel) (by decide +kernel)
set_option maxRecDepth 20000 in
theorem gX2_wouldPress_X2_requireSpan : GoodIn wsX2_wouldPress (wsV RX2 55 RX2 yX2_requireSpan wsX2_requireSpan) := goodIn_app (goodIn_of _ (by decide +kernel)) ggX2_wouldPress_X2_requireSpan
set_option maxRecDepth 20000 in
theorem ggX2_wouldPress_X2_requireInRange : GoodIn wsX2_wouldPress wsX2_requireInRange := goodIn_r _ [17, 7, 8] (by decide +kernel) (by decide +kernel)
set_option maxRecDepth 20000 in
theorem gX2_wouldPress_X2_requireInRange : GoodIn wsX2_wouldPress (va_wsS RX2 32 yX2_requireInRange wsX2_requireInRange) := goodIn_app (goodIn_of _ (by decide +kernel)) ggX2_wouldPress_X2_requireInRange
set_option maxRecDepth 20000 in
theorem ggX2_wouldPress_X1_earthAbove : GoodIn wsX2_wouldPress wsX1_earthAbove := goodIn_r _ [22, 23, 24, 25, 26, 27, 31, 32, 33, 34] (by decide +kernel) (by decide +kernel)
set_option maxRecDepth 20000 in
theorem gX2_wouldPress_X1_earthAbove : GoodIn wsX2_wouldPress (wsV RX2 68 RX1 yX1_earthAbove wsX1_earthAbove) := goodIn_app (goodIn_of _ (by decide +kernel)) ggX2_wouldPress_X1_earthAbove
theorem dX2_wouldPress_0 : decode cX2_wouldPress 0 = .ok (.aload_n 0, 1) := by decide +kernel
theorem dX2_wouldPress_1 : decode cX2_wouldPress 1 = .ok (.iload_n 1, 1) := by decide +kernel
theorem dX2_wouldPress_2 : decode cX2_wouldPress 2 = .ok (.iload_n 2, 1) := by decide +kernel
theorem dX2_wouldPress_3 : decode cX2_wouldPress 3 = .ok (.invokevirtual 55, 3) := by decide +kernel
theorem dX2_wouldPress_6 : decode cX2_wouldPress 6 = .ok (.iload_n 3, 1) := by decide +kernel
theorem dX2_wouldPress_7 : decode cX2_wouldPress 7 = .ok (.iconst 0, 1) := by decide +kernel
theorem dX2_wouldPress_8 : decode cX2_wouldPress 8 = .ok (.sipush 1000, 3) := by decide +kernel
theorem dX2_wouldPress_11 : decode cX2_wouldPress 11 = .ok (.invokestatic 32, 3) := by decide +kernel
theorem dX2_wouldPress_14 : decode cX2_wouldPress 14 = .ok (.aload_n 0, 1) := by decide +kernel
theorem dX2_wouldPress_15 : decode cX2_wouldPress 15 = .ok (.getfield 19, 3) := by decide +kernel
theorem dX2_wouldPress_18 : decode cX2_wouldPress 18 = .ok (.iload_n 1, 1) := by decide +kernel
theorem dX2_wouldPress_19 : decode cX2_wouldPress 19 = .ok (.iload_n 2, 1) := by decide +kernel
theorem dX2_wouldPress_20 : decode cX2_wouldPress 20 = .ok (.iload_n 3, 1) := by decide +kernel
theorem dX2_wouldPress_21 : decode cX2_wouldPress 21 = .ok (.invokevirtual 68, 3) := by decide +kernel
theorem dX2_wouldPress_24 : decode cX2_wouldPress 24 = .ok (.ireturn, 1) := by decide +kernel
set_option maxRecDepth 20000 in
theorem ggX2_ceilingFor_X2_requireSpan : GoodIn wsX2_ceilingFor wsX2_requireSpan := goodIn_r _ [9, 10, 11, 12, 13, 14, 8, 15, 16, 17, 4, 35, 36, 37, 38, 39, 40, 41] (by decide +kernel) (by decide +kernel)
set_option maxRecDepth 20000 in
theorem gX2_ceilingFor_X2_requireSpan : GoodIn wsX2_ceilingFor (wsV RX2 55 RX2 yX2_requireSpan wsX2_requireSpan) := goodIn_app (goodIn_of _ (by decide +kernel)) ggX2_ceilingFor_X2_requireSpan
set_option maxRecDepth 20000 in
theorem ggX2_ceilingFor_X2_requireInRange : GoodIn wsX2_ceilingFor wsX2_requireInRange := goodIn_r _ [20, 10, 11] (by decide +kernel) (by decide +kernel)
set_option maxRecDepth 20000 in
theorem gX2_ceilingFor_X2_requireInRange : GoodIn wsX2_ceilingFor (va_wsS RX2 32 yX2_requireInRange wsX2_requireInRange) := goodIn_app (goodIn_of _ (by decide +kernel)) ggX2_ceilingFor_X2_requireInRange
set_option maxRecDepth 20000 in
theorem ggX2_ceilingFor_X1_highestCeilingFor : GoodIn wsX2_ceilingFor wsX1_highestCeilingFor := goodIn_r _ [25, 26, 27, 28, 24, 29, 30, 31, 32, 33, 34, 38, 39, 40, 41] (by decide +kernel) (by decide +kernel)
set_option maxRecDepth 20000 in
theorem gX2_ceilingFor_X1_highestCeilingFor : GoodIn wsX2_ceilingFor (wsV RX2 79 RX1 yX1_highestCeilingFor wsX1_highestCeilingFor) := goodIn_app (goodIn_of _ (by decide +kernel)) ggX2_ceilingFor_X1_highestCeilingFor
theorem dX2_ceilingFor_0 : decode cX2_ceilingFor 0 = .ok (.aload_n 0, 1) := by decide +kernel
theorem dX2_ceilingFor_1 : decode cX2_ceilingFor 1 = .ok (.iload_n 1, 1) := by decide +kernel
theorem dX2_ceilingFor_2 : decode cX2_ceilingFor 2 = .ok (.iload_n 2, 1) := by decide +kernel
theorem dX2_ceilingFor_3 : decode cX2_ceilingFor 3 = .ok (.invokevirtual 55, 3) := by decide +kernel
theorem dX2_ceilingFor_6 : decode cX2_ceilingFor 6 = .ok (.iload_n 3, 1) := by decide +kernel
theorem dX2_ceilingFor_7 : decode cX2_ceilingFor 7 = .ok (.iconst 1, 1) := by decide +kernel
theorem dX2_ceilingFor_8 : decode cX2_ceilingFor 8 = .ok (.ldc 78, 2) := by decide +kernel
theorem dX2_ceilingFor_10 : decode cX2_ceilingFor 10 = .ok (.invokestatic 32, 3) := by decide +kernel
theorem dX2_ceilingFor_13 : decode cX2_ceilingFor 13 = .ok (.aload_n 0, 1) := by decide +kernel
theorem dX2_ceilingFor_14 : decode cX2_ceilingFor 14 = .ok (.getfield 19, 3) := by decide +kernel
theorem dX2_ceilingFor_17 : decode cX2_ceilingFor 17 = .ok (.iload_n 1, 1) := by decide +kernel
theorem dX2_ceilingFor_18 : decode cX2_ceilingFor 18 = .ok (.iload_n 2, 1) := by decide +kernel
theorem dX2_ceilingFor_19 : decode cX2_ceilingFor 19 = .ok (.iload_n 3, 1) := by decide +kernel
theorem dX2_ceilingFor_20 : decode cX2_ceilingFor 20 = .ok (.invokevirtual 79, 3) := by decide +kernel
theorem dX2_ceilingFor_23 : decode cX2_ceilingFor 23 = .ok (.istore 4, 2) := by decide +kernel
theorem dX2_ceilingFor_25 : decode cX2_ceilingFor 25 = .ok (.iload 4, 2) := by decide +kernel
theorem dX2_ceilingFor_27 : decode cX2_ceilingFor 27 = .ok (.iconst (-1), 1) := by decide +kernel
theorem dX2_ceilingFor_28 : decode cX2_ceilingFor 28 = .ok (.if_icmp .ne 13, 3) := by decide +kernel
theorem dX2_ceilingFor_31 : decode cX2_ceilingFor 31 = .ok (.new 82, 3) := by decide +kernel
theorem dX2_ceilingFor_34 : decode cX2_ceilingFor 34 = .ok (.dup, 1) := by decide +kernel
theorem dX2_ceilingFor_35 : decode cX2_ceilingFor 35 = .ok (.ldc 84, 2) := by decide +kernel
theorem dX2_ceilingFor_37 : decode cX2_ceilingFor 37 = .ok (.invokespecial 86, 3) := by decide +kernel
theorem dX2_ceilingFor_40 : decode cX2_ceilingFor 40 = .ok (.athrow, 1) := by decide +kernel
theorem dX2_ceilingFor_41 : decode cX2_ceilingFor 41 = .ok (.iload 4, 2) := by decide +kernel
theorem dX2_ceilingFor_43 : decode cX2_ceilingFor 43 = .ok (.ireturn, 1) := by decide +kernel
set_option maxRecDepth 20000 in
theorem ggX2_ceilingOver_X2_requireColumn : GoodIn wsX2_ceilingOver wsX2_requireColumn := goodIn_r _ [8, 9, 10, 3, 11, 12, 13, 14, 15, 16, 17] (by decide +kernel) (by decide +kernel)
set_option maxRecDepth 20000 in
theorem gX2_ceilingOver_X2_requireColumn : GoodIn wsX2_ceilingOver (wsV RX2 36 RX2 yX2_requireColumn wsX2_requireColumn) := goodIn_app (goodIn_of _ (by decide +kernel)) ggX2_ceilingOver_X2_requireColumn
theorem dX2_ceilingOver_0 : decode cX2_ceilingOver 0 = .ok (.aload_n 0, 1) := by decide +kernel
theorem dX2_ceilingOver_1 : decode cX2_ceilingOver 1 = .ok (.iload_n 1, 1) := by decide +kernel
theorem dX2_ceilingOver_2 : decode cX2_ceilingOver 2 = .ok (.invokevirtual 36, 3) := by decide +kernel
theorem dX2_ceilingOver_5 : decode cX2_ceilingOver 5 = .ok (.aload_n 0, 1) := by decide +kernel
theorem dX2_ceilingOver_6 : decode cX2_ceilingOver 6 = .ok (.getfield 19, 3) := by decide +kernel
theorem dX2_ceilingOver_9 : decode cX2_ceilingOver 9 = .ok (.getfield 87, 3) := by decide +kernel
theorem dX2_ceilingOver_12 : decode cX2_ceilingOver 12 = .ok (.iload_n 1, 1) := by decide +kernel
theorem dX2_ceilingOver_13 : decode cX2_ceilingOver 13 = .ok (.iaload, 1) := by decide +kernel
theorem dX2_ceilingOver_14 : decode cX2_ceilingOver 14 = .ok (.istore_n 2, 1) := by decide +kernel
theorem dX2_ceilingOver_15 : decode cX2_ceilingOver 15 = .ok (.iload_n 2, 1) := by decide +kernel
theorem dX2_ceilingOver_16 : decode cX2_ceilingOver 16 = .ok (.iconst (-1), 1) := by decide +kernel
theorem dX2_ceilingOver_17 : decode cX2_ceilingOver 17 = .ok (.if_icmp .ne 13, 3) := by decide +kernel
theorem dX2_ceilingOver_20 : decode cX2_ceilingOver 20 = .ok (.new 82, 3) := by decide +kernel
theorem dX2_ceilingOver_23 : decode cX2_ceilingOver 23 = .ok (.dup, 1) := by decide +kernel
theorem dX2_ceilingOver_24 : decode cX2_ceilingOver 24 = .ok (.ldc 90, 2) := by decide +kernel
theorem dX2_ceilingOver_26 : decode cX2_ceilingOver 26 = .ok (.invokespecial 86, 3) := by decide +kernel
theorem dX2_ceilingOver_29 : decode cX2_ceilingOver 29 = .ok (.athrow, 1) := by decide +kernel
theorem dX2_ceilingOver_30 : decode cX2_ceilingOver 30 = .ok (.iload_n 2, 1) := by decide +kernel
theorem dX2_ceilingOver_31 : decode cX2_ceilingOver 31 = .ok (.ireturn, 1) := by decide +kernel
theorem dX2_columns_0 : decode cX2_columns 0 = .ok (.aload_n 0, 1) := by decide +kernel
theorem dX2_columns_1 : decode cX2_columns 1 = .ok (.getfield 19, 3) := by decide +kernel
theorem dX2_columns_4 : decode cX2_columns 4 = .ok (.getfield 92, 3) := by decide +kernel
theorem dX2_columns_7 : decode cX2_columns 7 = .ok (.ireturn, 1) := by decide +kernel
set_option maxRecDepth 20000 in
theorem ggX2_spanOf_X2_requireEntry : GoodIn wsX2_spanOf wsX2_requireEntry := goodIn_r _ [6, 7, 8, 1, 9, 10, 11, 12, 13, 14, 15, 16, 17, 18, 19, 20, 21, 22, 23, 24, 25, 26] (by decide +kernel) (by decide +kernel)
set_option maxRecDepth 20000 in
theorem gX2_spanOf_X2_requireEntry : GoodIn wsX2_spanOf (wsV RX2 95 RX2 yX2_requireEntry wsX2_requireEntry) := goodIn_app (goodIn_of _ (by decide +kernel)) ggX2_spanOf_X2_requireEntry
theorem dX2_spanOf_0 : decode cX2_spanOf 0 = .ok (.aload_n 0, 1) := by decide +kernel
theorem dX2_spanOf_1 : decode cX2_spanOf 1 = .ok (.iload_n 1, 1) := by decide +kernel
theorem dX2_spanOf_2 : decode cX2_spanOf 2 = .ok (.invokevirtual 95, 3) := by decide +kernel
theorem dX2_spanOf_5 : decode cX2_spanOf 5 = .ok (.bipush 100, 2) := by decide +kernel
theorem dX2_spanOf_7 : decode cX2_spanOf 7 = .ok (.aload_n 0, 1) := by decide +kernel
theorem dX2_spanOf_8 : decode cX2_spanOf 8 = .ok (.getfield 12, 3) := by decide +kernel
theorem dX2_spanOf_11 : decode cX2_spanOf 11 = .ok (.getfield 98, 3) := by decide +kernel
theorem dX2_spanOf_14 : decode cX2_spanOf 14 = .ok (.iload_n 1, 1) := by decide +kernel
theorem dX2_spanOf_15 : decode cX2_spanOf 15 = .ok (.iaload, 1) := by decide +kernel
theorem dX2_spanOf_16 : decode cX2_spanOf 16 = .ok (.imul, 1) := by decide +kernel
theorem dX2_spanOf_17 : decode cX2_spanOf 17 = .ok (.aload_n 0, 1) := by decide +kernel
theorem dX2_spanOf_18 : decode cX2_spanOf 18 = .ok (.getfield 12, 3) := by decide +kernel
theorem dX2_spanOf_21 : decode cX2_spanOf 21 = .ok (.getfield 101, 3) := by decide +kernel
theorem dX2_spanOf_24 : decode cX2_spanOf 24 = .ok (.iload_n 1, 1) := by decide +kernel
theorem dX2_spanOf_25 : decode cX2_spanOf 25 = .ok (.iaload, 1) := by decide +kernel
theorem dX2_spanOf_26 : decode cX2_spanOf 26 = .ok (.iadd, 1) := by decide +kernel
theorem dX2_spanOf_27 : decode cX2_spanOf 27 = .ok (.ireturn, 1) := by decide +kernel
set_option maxRecDepth 20000 in
theorem ggX2_greatest_X2_requireEntry : GoodIn wsX2_greatest wsX2_requireEntry := goodIn_r _ [6, 7, 8, 1, 9, 10, 11, 12, 13, 14, 15, 16, 17, 18, 19, 20, 21, 22, 23, 24, 25, 26] (by decide +kernel) (by decide +kernel)
set_option maxRecDepth 20000 in
theorem gX2_greatest_X2_requireEntry : GoodIn wsX2_greatest (wsV RX2 95 RX2 yX2_requireEntry wsX2_requireEntry) := goodIn_app (goodIn_of _ (by decide +kernel)) ggX2_greatest_X2_requireEntry
theorem dX2_greatest_0 : decode cX2_greatest 0 = .ok (.aload_n 0, 1) := by decide +kernel
theorem dX2_greatest_1 : decode cX2_greatest 1 = .ok (.iload_n 1, 1) := by decide +kernel
theorem dX2_greatest_2 : decode cX2_greatest 2 = .ok (.invokevirtual 95, 3) := by decide +kernel
theorem dX2_greatest_5 : decode cX2_greatest 5 = .ok (.aload_n 0, 1) := by decide +kernel
theorem dX2_greatest_6 : decode cX2_greatest 6 = .ok (.getfield 12, 3) := by decide +kernel
theorem dX2_greatest_9 : decode cX2_greatest 9 = .ok (.getfield 104, 3) := by decide +kernel
theorem dX2_greatest_12 : decode cX2_greatest 12 = .ok (.iload_n 1, 1) := by decide +kernel
theorem dX2_greatest_13 : decode cX2_greatest 13 = .ok (.iaload, 1) := by decide +kernel
theorem dX2_greatest_14 : decode cX2_greatest 14 = .ok (.ireturn, 1) := by decide +kernel
set_option maxRecDepth 20000 in
theorem ggX2_second_X2_requireEntry : GoodIn wsX2_second wsX2_requireEntry := goodIn_r _ [6, 7, 8, 1, 9, 10, 11, 12, 13, 14, 15, 16, 17, 18, 19, 20, 21, 22, 23, 24, 25, 26] (by decide +kernel) (by decide +kernel)
set_option maxRecDepth 20000 in
theorem gX2_second_X2_requireEntry : GoodIn wsX2_second (wsV RX2 95 RX2 yX2_requireEntry wsX2_requireEntry) := goodIn_app (goodIn_of _ (by decide +kernel)) ggX2_second_X2_requireEntry
theorem dX2_second_0 : decode cX2_second 0 = .ok (.aload_n 0, 1) := by decide +kernel
theorem dX2_second_1 : decode cX2_second 1 = .ok (.iload_n 1, 1) := by decide +kernel
theorem dX2_second_2 : decode cX2_second 2 = .ok (.invokevirtual 95, 3) := by decide +kernel
theorem dX2_second_5 : decode cX2_second 5 = .ok (.aload_n 0, 1) := by decide +kernel
theorem dX2_second_6 : decode cX2_second 6 = .ok (.getfield 12, 3) := by decide +kernel
theorem dX2_second_9 : decode cX2_second 9 = .ok (.getfield 107, 3) := by decide +kernel
theorem dX2_second_12 : decode cX2_second 12 = .ok (.iload_n 1, 1) := by decide +kernel
theorem dX2_second_13 : decode cX2_second 13 = .ok (.iaload, 1) := by decide +kernel
theorem dX2_second_14 : decode cX2_second 14 = .ok (.ireturn, 1) := by decide +kernel
set_option maxRecDepth 20000 in
theorem ggX2_many_X2_requireEntry : GoodIn wsX2_many wsX2_requireEntry := goodIn_r _ [6, 7, 8, 1, 9, 10, 11, 12, 13, 14, 15, 16, 17, 18, 19, 20, 21, 22, 23, 24, 25, 26] (by decide +kernel) (by decide +kernel)
set_option maxRecDepth 20000 in
theorem gX2_many_X2_requireEntry : GoodIn wsX2_many (wsV RX2 95 RX2 yX2_requireEntry wsX2_requireEntry) := goodIn_app (goodIn_of _ (by decide +kernel)) ggX2_many_X2_requireEntry
theorem dX2_many_0 : decode cX2_many 0 = .ok (.aload_n 0, 1) := by decide +kernel
theorem dX2_many_1 : decode cX2_many 1 = .ok (.iload_n 1, 1) := by decide +kernel
theorem dX2_many_2 : decode cX2_many 2 = .ok (.invokevirtual 95, 3) := by decide +kernel
theorem dX2_many_5 : decode cX2_many 5 = .ok (.aload_n 0, 1) := by decide +kernel
theorem dX2_many_6 : decode cX2_many 6 = .ok (.getfield 12, 3) := by decide +kernel
theorem dX2_many_9 : decode cX2_many 9 = .ok (.getfield 110, 3) := by decide +kernel
theorem dX2_many_12 : decode cX2_many 12 = .ok (.iload_n 1, 1) := by decide +kernel
theorem dX2_many_13 : decode cX2_many 13 = .ok (.iaload, 1) := by decide +kernel
theorem dX2_many_14 : decode cX2_many 14 = .ok (.ireturn, 1) := by decide +kernel
set_option maxRecDepth 20000 in
theorem ggX2_noted_X2_requireEntry : GoodIn wsX2_noted wsX2_requireEntry := goodIn_r _ [6, 7, 8, 1, 9, 10, 11, 12, 13, 14, 15, 16, 17, 18, 19, 20, 21, 22, 23, 24, 25, 26] (by decide +kernel) (by decide +kernel)
set_option maxRecDepth 20000 in
theorem gX2_noted_X2_requireEntry : GoodIn wsX2_noted (wsV RX2 95 RX2 yX2_requireEntry wsX2_requireEntry) := goodIn_app (goodIn_of _ (by decide +kernel)) ggX2_noted_X2_requireEntry
theorem dX2_noted_0 : decode cX2_noted 0 = .ok (.aload_n 0, 1) := by decide +kernel
theorem dX2_noted_1 : decode cX2_noted 1 = .ok (.iload_n 1, 1) := by decide +kernel
theorem dX2_noted_2 : decode cX2_noted 2 = .ok (.invokevirtual 95, 3) := by decide +kernel
theorem dX2_noted_5 : decode cX2_noted 5 = .ok (.aload_n 0, 1) := by decide +kernel
theorem dX2_noted_6 : decode cX2_noted 6 = .ok (.getfield 12, 3) := by decide +kernel
theorem dX2_noted_9 : decode cX2_noted 9 = .ok (.getfield 113, 3) := by decide +kernel
theorem dX2_noted_12 : decode cX2_noted 12 = .ok (.iload_n 1, 1) := by decide +kernel
theorem dX2_noted_13 : decode cX2_noted 13 = .ok (.iaload, 1) := by decide +kernel
theorem dX2_noted_14 : decode cX2_noted 14 = .ok (.ireturn, 1) := by decide +kernel
set_option maxRecDepth 20000 in
theorem ggX2_lagging_X0_countLagging : GoodIn wsX2_lagging wsX0_countLagging := goodIn_r _ [6, 7, 8, 9, 5, 10, 11, 12, 13, 14, 15, 16, 20, 21, 22, 23, 24, 25, 26, 27, 28] (by decide +kernel) (by decide +kernel)
set_option maxRecDepth 20000 in
theorem gX2_lagging_X0_countLagging : GoodIn wsX2_lagging (wsV RX2 116 RX0 yX0_countLagging wsX0_countLagging) := goodIn_app (goodIn_of _ (by decide +kernel)) ggX2_lagging_X0_countLagging
theorem dX2_lagging_0 : decode cX2_lagging 0 = .ok (.aload_n 0, 1) := by decide +kernel
theorem dX2_lagging_1 : decode cX2_lagging 1 = .ok (.getfield 12, 3) := by decide +kernel
theorem dX2_lagging_4 : decode cX2_lagging 4 = .ok (.invokevirtual 116, 3) := by decide +kernel
theorem dX2_lagging_7 : decode cX2_lagging 7 = .ok (.ireturn, 1) := by decide +kernel
theorem dX2_visits_0 : decode cX2_visits 0 = .ok (.aload_n 0, 1) := by decide +kernel
theorem dX2_visits_1 : decode cX2_visits 1 = .ok (.getfield 12, 3) := by decide +kernel
theorem dX2_visits_4 : decode cX2_visits 4 = .ok (.getfield 120, 3) := by decide +kernel
theorem dX2_visits_7 : decode cX2_visits 7 = .ok (.ireturn, 1) := by decide +kernel
theorem dX2_allVisits_0 : decode cX2_allVisits 0 = .ok (.aload_n 0, 1) := by decide +kernel
theorem dX2_allVisits_1 : decode cX2_allVisits 1 = .ok (.getfield 12, 3) := by decide +kernel
theorem dX2_allVisits_4 : decode cX2_allVisits 4 = .ok (.getfield 123, 3) := by decide +kernel
theorem dX2_allVisits_7 : decode cX2_allVisits 7 = .ok (.ireturn, 1) := by decide +kernel
theorem dX2_pressedAway_0 : decode cX2_pressedAway 0 = .ok (.aload_n 0, 1) := by decide +kernel
theorem dX2_pressedAway_1 : decode cX2_pressedAway 1 = .ok (.getfield 28, 3) := by decide +kernel
theorem dX2_pressedAway_4 : decode cX2_pressedAway 4 = .ok (.ireturn, 1) := by decide +kernel
set_option maxRecDepth 20000 in
theorem ggX2_pressedAwayByRest_X1_earthAbove : GoodIn wsX2_pressedAwayByRest wsX1_earthAbove := goodIn_r _ [6, 7, 8, 9, 10, 11, 15, 16, 17, 18] (by decide +kernel) (by decide +kernel)
set_option maxRecDepth 20000 in
theorem gX2_pressedAwayByRest_X1_earthAbove : GoodIn wsX2_pressedAwayByRest (wsV RX2 68 RX1 yX1_earthAbove wsX1_earthAbove) := goodIn_app (goodIn_of _ (by decide +kernel)) ggX2_pressedAwayByRest_X1_earthAbove
theorem dX2_pressedAwayByRest_0 : decode cX2_pressedAwayByRest 0 = .ok (.aload_n 0, 1) := by decide +kernel
theorem dX2_pressedAwayByRest_1 : decode cX2_pressedAwayByRest 1 = .ok (.getfield 19, 3) := by decide +kernel
theorem dX2_pressedAwayByRest_4 : decode cX2_pressedAwayByRest 4 = .ok (.getfield 126, 3) := by decide +kernel
theorem dX2_pressedAwayByRest_7 : decode cX2_pressedAwayByRest 7 = .ok (.aload_n 0, 1) := by decide +kernel
theorem dX2_pressedAwayByRest_8 : decode cX2_pressedAwayByRest 8 = .ok (.getfield 19, 3) := by decide +kernel
theorem dX2_pressedAwayByRest_11 : decode cX2_pressedAwayByRest 11 = .ok (.iconst 0, 1) := by decide +kernel
theorem dX2_pressedAwayByRest_12 : decode cX2_pressedAwayByRest 12 = .ok (.aload_n 0, 1) := by decide +kernel
theorem dX2_pressedAwayByRest_13 : decode cX2_pressedAwayByRest 13 = .ok (.getfield 19, 3) := by decide +kernel
theorem dX2_pressedAwayByRest_16 : decode cX2_pressedAwayByRest 16 = .ok (.getfield 92, 3) := by decide +kernel
theorem dX2_pressedAwayByRest_19 : decode cX2_pressedAwayByRest 19 = .ok (.iconst 1, 1) := by decide +kernel
theorem dX2_pressedAwayByRest_20 : decode cX2_pressedAwayByRest 20 = .ok (.isub, 1) := by decide +kernel
theorem dX2_pressedAwayByRest_21 : decode cX2_pressedAwayByRest 21 = .ok (.iconst 0, 1) := by decide +kernel
theorem dX2_pressedAwayByRest_22 : decode cX2_pressedAwayByRest 22 = .ok (.invokevirtual 68, 3) := by decide +kernel
theorem dX2_pressedAwayByRest_25 : decode cX2_pressedAwayByRest 25 = .ok (.isub, 1) := by decide +kernel
theorem dX2_pressedAwayByRest_26 : decode cX2_pressedAwayByRest 26 = .ok (.ireturn, 1) := by decide +kernel
theorem dX2_meanVisits_0 : decode cX2_meanVisits 0 = .ok (.aload_n 0, 1) := by decide +kernel
theorem dX2_meanVisits_1 : decode cX2_meanVisits 1 = .ok (.getfield 12, 3) := by decide +kernel
theorem dX2_meanVisits_4 : decode cX2_meanVisits 4 = .ok (.getfield 129, 3) := by decide +kernel
theorem dX2_meanVisits_7 : decode cX2_meanVisits 7 = .ok (.ifCond .ne 5, 3) := by decide +kernel
theorem dX2_meanVisits_10 : decode cX2_meanVisits 10 = .ok (.dconst 0, 1) := by decide +kernel
theorem dX2_meanVisits_11 : decode cX2_meanVisits 11 = .ok (.dreturn, 1) := by decide +kernel
theorem dX2_meanVisits_12 : decode cX2_meanVisits 12 = .ok (.aload_n 0, 1) := by decide +kernel
theorem dX2_meanVisits_13 : decode cX2_meanVisits 13 = .ok (.getfield 12, 3) := by decide +kernel
theorem dX2_meanVisits_16 : decode cX2_meanVisits 16 = .ok (.getfield 123, 3) := by decide +kernel
theorem dX2_meanVisits_19 : decode cX2_meanVisits 19 = .ok (.i2d, 1) := by decide +kernel
theorem dX2_meanVisits_20 : decode cX2_meanVisits 20 = .ok (.aload_n 0, 1) := by decide +kernel
theorem dX2_meanVisits_21 : decode cX2_meanVisits 21 = .ok (.getfield 12, 3) := by decide +kernel
theorem dX2_meanVisits_24 : decode cX2_meanVisits 24 = .ok (.getfield 129, 3) := by decide +kernel
theorem dX2_meanVisits_27 : decode cX2_meanVisits 27 = .ok (.i2d, 1) := by decide +kernel
theorem dX2_meanVisits_28 : decode cX2_meanVisits 28 = .ok (.ddiv, 1) := by decide +kernel
theorem dX2_meanVisits_29 : decode cX2_meanVisits 29 = .ok (.dreturn, 1) := by decide +kernel
theorem dX2_requireColumn_0 : decode cX2_requireColumn 0 = .ok (.iload_n 1, 1) := by decide +kernel
theorem dX2_requireColumn_1 : decode cX2_requireColumn 1 = .ok (.ifCond .lt 14, 3) := by decide +kernel
theorem dX2_requireColumn_4 : decode cX2_requireColumn 4 = .ok (.iload_n 1, 1) := by decide +kernel
theorem dX2_requireColumn_5 : decode cX2_requireColumn 5 = .ok (.aload_n 0, 1) := by decide +kernel
theorem dX2_requireColumn_6 : decode cX2_requireColumn 6 = .ok (.getfield 19, 3) := by decide +kernel
theorem dX2_requireColumn_9 : decode cX2_requireColumn 9 = .ok (.getfield 92, 3) := by decide +kernel
theorem dX2_requireColumn_12 : decode cX2_requireColumn 12 = .ok (.if_icmp .lt 13, 3) := by decide +kernel
theorem dX2_requireColumn_15 : decode cX2_requireColumn 15 = .ok (.new 132, 3) := by decide +kernel
theorem dX2_requireColumn_18 : decode cX2_requireColumn 18 = .ok (.dup, 1) := by decide +kernel
theorem dX2_requireColumn_19 : decode cX2_requireColumn 19 = .ok (.ldc 134, 2) := by decide +kernel
theorem dX2_requireColumn_21 : decode cX2_requireColumn 21 = .ok (.invokespecial 136, 3) := by decide +kernel
theorem dX2_requireColumn_24 : decode cX2_requireColumn 24 = .ok (.athrow, 1) := by decide +kernel
theorem dX2_requireColumn_25 : decode cX2_requireColumn 25 = .ok (.return_, 1) := by decide +kernel
set_option maxRecDepth 20000 in
theorem ggX2_requireSpan_X2_requireColumn : GoodIn wsX2_requireSpan wsX2_requireColumn := goodIn_r _ [7, 8, 9, 10, 11, 12, 13, 14, 15, 16, 17] (by decide +kernel) (by decide +kernel)
set_option maxRecDepth 20000 in
theorem gX2_requireSpan_X2_requireColumn : GoodIn wsX2_requireSpan (wsV RX2 36 RX2 yX2_requireColumn wsX2_requireColumn) := goodIn_app (goodIn_of _ (by decide +kernel)) ggX2_requireSpan_X2_requireColumn
theorem dX2_requireSpan_0 : decode cX2_requireSpan 0 = .ok (.aload_n 0, 1) := by decide +kernel
theorem dX2_requireSpan_1 : decode cX2_requireSpan 1 = .ok (.iload_n 1, 1) := by decide +kernel
theorem dX2_requireSpan_2 : decode cX2_requireSpan 2 = .ok (.invokevirtual 36, 3) := by decide +kernel
theorem dX2_requireSpan_5 : decode cX2_requireSpan 5 = .ok (.aload_n 0, 1) := by decide +kernel
theorem dX2_requireSpan_6 : decode cX2_requireSpan 6 = .ok (.iload_n 2, 1) := by decide +kernel
theorem dX2_requireSpan_7 : decode cX2_requireSpan 7 = .ok (.invokevirtual 36, 3) := by decide +kernel
theorem dX2_requireSpan_10 : decode cX2_requireSpan 10 = .ok (.iload_n 2, 1) := by decide +kernel
theorem dX2_requireSpan_11 : decode cX2_requireSpan 11 = .ok (.iload_n 1, 1) := by decide +kernel
theorem dX2_requireSpan_12 : decode cX2_requireSpan 12 = .ok (.if_icmp .ge 13, 3) := by decide +kernel
theorem dX2_requireSpan_15 : decode cX2_requireSpan 15 = .ok (.new 137, 3) := by decide +kernel
theorem dX2_requireSpan_18 : decode cX2_requireSpan 18 = .ok (.dup, 1) := by decide +kernel
theorem dX2_requireSpan_19 : decode cX2_requireSpan 19 = .ok (.ldc 139, 2) := by decide +kernel
theorem dX2_requireSpan_21 : decode cX2_requireSpan 21 = .ok (.invokespecial 141, 3) := by decide +kernel
theorem dX2_requireSpan_24 : decode cX2_requireSpan 24 = .ok (.athrow, 1) := by decide +kernel
theorem dX2_requireSpan_25 : decode cX2_requireSpan 25 = .ok (.return_, 1) := by decide +kernel
set_option maxRecDepth 20000 in
theorem ggX2_requireEntry_X0_has : GoodIn wsX2_requireEntry wsX0_has := goodIn_r _ [8, 9, 13, 14, 15, 16, 17, 18, 19, 20, 21] (by decide +kernel) (by decide +kernel)
set_option maxRecDepth 20000 in
theorem gX2_requireEntry_X0_has : GoodIn wsX2_requireEntry (wsV RX2 142 RX0 yX0_has wsX0_has) := goodIn_app (goodIn_of _ (by decide +kernel)) ggX2_requireEntry_X0_has
theorem dX2_requireEntry_0 : decode cX2_requireEntry 0 = .ok (.aload_n 0, 1) := by decide +kernel
theorem dX2_requireEntry_1 : decode cX2_requireEntry 1 = .ok (.getfield 12, 3) := by decide +kernel
theorem dX2_requireEntry_4 : decode cX2_requireEntry 4 = .ok (.iload_n 1, 1) := by decide +kernel
theorem dX2_requireEntry_5 : decode cX2_requireEntry 5 = .ok (.invokevirtual 142, 3) := by decide +kernel
theorem dX2_requireEntry_8 : decode cX2_requireEntry 8 = .ok (.ifCond .ne 13, 3) := by decide +kernel
theorem dX2_requireEntry_11 : decode cX2_requireEntry 11 = .ok (.new 132, 3) := by decide +kernel
theorem dX2_requireEntry_14 : decode cX2_requireEntry 14 = .ok (.dup, 1) := by decide +kernel
theorem dX2_requireEntry_15 : decode cX2_requireEntry 15 = .ok (.ldc 146, 2) := by decide +kernel
theorem dX2_requireEntry_17 : decode cX2_requireEntry 17 = .ok (.invokespecial 136, 3) := by decide +kernel
theorem dX2_requireEntry_20 : decode cX2_requireEntry 20 = .ok (.athrow, 1) := by decide +kernel
theorem dX2_requireEntry_21 : decode cX2_requireEntry 21 = .ok (.return_, 1) := by decide +kernel
theorem dX2_requireInRange_0 : decode cX2_requireInRange 0 = .ok (.iload_n 0, 1) := by decide +kernel
theorem dX2_requireInRange_1 : decode cX2_requireInRange 1 = .ok (.iload_n 1, 1) := by decide +kernel
theorem dX2_requireInRange_2 : decode cX2_requireInRange 2 = .ok (.if_icmp .lt 8, 3) := by decide +kernel
theorem dX2_requireInRange_5 : decode cX2_requireInRange 5 = .ok (.iload_n 0, 1) := by decide +kernel
theorem dX2_requireInRange_6 : decode cX2_requireInRange 6 = .ok (.iload_n 2, 1) := by decide +kernel
theorem dX2_requireInRange_7 : decode cX2_requireInRange 7 = .ok (.if_icmp .le 13, 3) := by decide +kernel
theorem dX2_requireInRange_10 : decode cX2_requireInRange 10 = .ok (.new 137, 3) := by decide +kernel
theorem dX2_requireInRange_13 : decode cX2_requireInRange 13 = .ok (.dup, 1) := by decide +kernel
theorem dX2_requireInRange_14 : decode cX2_requireInRange 14 = .ok (.ldc 148, 2) := by decide +kernel
theorem dX2_requireInRange_16 : decode cX2_requireInRange 16 = .ok (.invokespecial 141, 3) := by decide +kernel
theorem dX2_requireInRange_19 : decode cX2_requireInRange 19 = .ok (.athrow, 1) := by decide +kernel
theorem dX2_requireInRange_20 : decode cX2_requireInRange 20 = .ok (.return_, 1) := by decide +kernel
end
section
theorem dL_cell_0 : decode cL_cell 0 = .ok (.iload_n 1, 1) := by decide +kernel
theorem dL_cell_1 : decode cL_cell 1 = .ok (.aload_n 0, 1) := by decide +kernel
theorem dL_cell_2 : decode cL_cell 2 = .ok (.arraylength, 1) := by decide +kernel
theorem dL_cell_3 : decode cL_cell 3 = .ok (.if_icmp .ge 9, 3) := by decide +kernel
theorem dL_cell_6 : decode cL_cell 6 = .ok (.aload_n 0, 1) := by decide +kernel
theorem dL_cell_7 : decode cL_cell 7 = .ok (.iload_n 1, 1) := by decide +kernel
theorem dL_cell_8 : decode cL_cell 8 = .ok (.iaload, 1) := by decide +kernel
theorem dL_cell_9 : decode cL_cell 9 = .ok (.goto 15, 3) := by decide +kernel
theorem dL_cell_12 : decode cL_cell 12 = .ok (.sipush 7919, 3) := by decide +kernel
theorem dL_cell_15 : decode cL_cell 15 = .ok (.iload_n 1, 1) := by decide +kernel
theorem dL_cell_16 : decode cL_cell 16 = .ok (.iconst 3, 1) := by decide +kernel
theorem dL_cell_17 : decode cL_cell 17 = .ok (.iadd, 1) := by decide +kernel
theorem dL_cell_18 : decode cL_cell 18 = .ok (.imul, 1) := by decide +kernel
theorem dL_cell_19 : decode cL_cell 19 = .ok (.iload_n 1, 1) := by decide +kernel
theorem dL_cell_20 : decode cL_cell 20 = .ok (.bipush 11, 2) := by decide +kernel
theorem dL_cell_22 : decode cL_cell 22 = .ok (.iadd, 1) := by decide +kernel
theorem dL_cell_23 : decode cL_cell 23 = .ok (.imul, 1) := by decide +kernel
theorem dL_cell_24 : decode cL_cell 24 = .ok (.ireturn, 1) := by decide +kernel
theorem dL_low_0 : decode cL_low 0 = .ok (.iload_n 0, 1) := by decide +kernel
theorem dL_low_1 : decode cL_low 1 = .ok (.ldc 7, 2) := by decide +kernel
theorem dL_low_3 : decode cL_low 3 = .ok (.iand, 1) := by decide +kernel
theorem dL_low_4 : decode cL_low 4 = .ok (.iload_n 1, 1) := by decide +kernel
theorem dL_low_5 : decode cL_low 5 = .ok (.irem, 1) := by decide +kernel
theorem dL_low_6 : decode cL_low 6 = .ok (.ireturn, 1) := by decide +kernel
set_option maxRecDepth 20000 in
theorem ggL_does_X2_columns : GoodIn wsL_does wsX2_columns := goodIn_r _ [5, 6, 252, 253, 254, 255, 256, 257, 258] (by decide +kernel) (by decide +kernel)
set_option maxRecDepth 20000 in
theorem gL_does_X2_columns : GoodIn wsL_does (wsV RL 8 RX2 yX2_columns wsX2_columns) := goodIn_app (goodIn_of _ (by decide +kernel)) ggL_does_X2_columns
set_option maxRecDepth 20000 in
theorem ggL_does_L_low : GoodIn wsL_does wsL_low := goodIn_r _ [10, 11] (by decide +kernel) (by decide +kernel)
set_option maxRecDepth 20000 in
theorem gL_does_L_low : GoodIn wsL_does (va_wsS RL 14 yL_low wsL_low) := goodIn_app (goodIn_of _ (by decide +kernel)) ggL_does_L_low
set_option maxRecDepth 20000 in
theorem ggL_does_X2_layOut : GoodIn wsL_does wsX2_layOut := goodIn_r _ [15, 16, 6, 17, 18, 19, 4, 20, 21, 22, 23, 24, 25, 26, 27, 28, 29, 30, 31, 32, 33, 34, 35, 36, 37, 38, 39, 40, 41, 42, 43, 44, 45, 46, 47, 48, 49, 50, 51, 52, 53, 54, 55, 56, 57, 252, 253, 254, 259, 260, 261, 262, 263, 264, 265, 266, 267, 255, 256, 257, 258] (by decide +kernel) (by decide +kernel)
set_option maxRecDepth 20000 in
theorem gL_does_X2_layOut : GoodIn wsL_does (wsV RL 20 RX2 yX2_layOut wsX2_layOut) := goodIn_app (goodIn_of _ (by decide +kernel)) ggL_does_X2_layOut
set_option maxRecDepth 20000 in
theorem ggL_does_X2_visits : GoodIn wsL_does wsX2_visits := goodIn_r _ [61, 16, 252, 253, 254, 259, 260, 261, 262, 263, 264, 265, 266, 267] (by decide +kernel) (by decide +kernel)
set_option maxRecDepth 20000 in
theorem gL_does_X2_visits : GoodIn wsL_does (wsV RL 23 RX2 yX2_visits wsX2_visits) := goodIn_app (goodIn_of _ (by decide +kernel)) ggL_does_X2_visits
set_option maxRecDepth 20000 in
theorem ggL_does_X2_allVisits : GoodIn wsL_does wsX2_allVisits := goodIn_r _ [65, 16, 252, 253, 254, 259, 260, 261, 262, 263, 264, 265, 266, 267] (by decide +kernel) (by decide +kernel)
set_option maxRecDepth 20000 in
theorem gL_does_X2_allVisits : GoodIn wsL_does (wsV RL 26 RX2 yX2_allVisits wsX2_allVisits) := goodIn_app (goodIn_of _ (by decide +kernel)) ggL_does_X2_allVisits
set_option maxRecDepth 20000 in
theorem ggL_does_X2_lagging : GoodIn wsL_does wsX2_lagging := goodIn_r _ [69, 16, 70, 71, 72, 26, 73, 74, 75, 76, 77, 28, 78, 79, 80, 81, 30, 252, 253, 254, 259, 260, 261, 262, 263, 264, 265, 266, 267] (by decide +kernel) (by decide +kernel)
set_option maxRecDepth 20000 in
theorem gL_does_X2_lagging : GoodIn wsL_does (wsV RL 29 RX2 yX2_lagging wsX2_lagging) := goodIn_app (goodIn_of _ (by decide +kernel)) ggL_does_X2_lagging
set_option maxRecDepth 20000 in
theorem ggL_does_X2_pressedAway : GoodIn wsL_does wsX2_pressedAway := goodIn_r _ [85, 17, 252, 253, 254] (by decide +kernel) (by decide +kernel)
set_option maxRecDepth 20000 in
theorem gL_does_X2_pressedAway : GoodIn wsL_does (wsV RL 32 RX2 yX2_pressedAway wsX2_pressedAway) := goodIn_app (goodIn_of _ (by decide +kernel)) ggL_does_X2_pressedAway
set_option maxRecDepth 20000 in
theorem ggL_does_L_isPiled : GoodIn wsL_does wsL_isPiled := goodIn_r _ [88, 89, 90, 91, 4, 92, 16, 93, 94, 95, 96, 97, 98, 6, 99, 100, 101, 26, 102, 30, 103, 104, 105, 106, 74, 75, 76, 77, 28, 107, 108, 109, 110, 29, 111, 112, 113, 114, 62, 63, 64, 65, 115, 116, 117, 118, 119, 120, 18, 19, 20, 21, 22, 121, 122, 123, 52, 124, 56, 57, 55, 125, 126, 127, 128, 129, 130, 131, 132, 36, 34, 133, 134, 135, 136, 33, 137, 138, 139, 140, 35, 45, 46, 47, 48, 141, 142, 143, 144, 145, 146, 147, 148, 78, 79, 80, 81, 149, 150, 151, 152, 32, 153, 154, 155, 156, 157, 158, 159, 31, 160, 161, 162, 163, 164, 165, 166, 167, 58, 59, 60, 61, 252, 253, 254, 255, 256, 257, 258, 259, 260, 261, 262, 263, 264, 265, 266, 267] (by decide +kernel) (by decide +kernel)
set_option maxRecDepth 20000 in
theorem gL_does_L_isPiled : GoodIn wsL_does (va_wsS RL 35 yL_isPiled wsL_isPiled) := goodIn_app (goodIn_of _ (by decide +kernel)) ggL_does_L_isPiled
set_option maxRecDepth 20000 in
theorem ggL_does_L_isAsked : GoodIn wsL_does wsL_isAsked := goodIn_r _ [170, 171, 172, 173, 4, 174, 6, 175, 176, 177, 178, 21, 22, 93, 94, 95, 96, 97, 98, 179, 180, 181, 52, 182, 56, 183, 158, 105, 159, 111, 112, 113, 114, 184, 185, 186, 187, 16, 188, 189, 190, 26, 191, 129, 130, 131, 132, 36, 34, 192, 193, 194, 195, 33, 137, 138, 139, 140, 35, 107, 108, 109, 110, 28, 29, 196, 197, 198, 199, 45, 46, 47, 48, 141, 142, 143, 144, 145, 146, 147, 148, 30, 78, 79, 80, 81, 149, 150, 151, 152, 32, 58, 59, 60, 61, 1, 2, 3, 5, 200, 201, 202, 203, 204, 205, 206, 207, 208, 209, 210, 211, 157, 212, 213, 214, 215, 216, 217, 218, 18, 19, 20, 219, 220, 221, 222, 223, 224, 225, 226, 227, 252, 253, 254, 255, 256, 257, 258, 259, 260, 261, 262, 263, 264, 265, 266, 267] (by decide +kernel) (by decide +kernel)
set_option maxRecDepth 20000 in
theorem gL_does_L_isAsked : GoodIn wsL_does (va_wsS RL 39 yL_isAsked wsL_isAsked) := goodIn_app (goodIn_of _ (by decide +kernel)) ggL_does_L_isAsked
set_option maxRecDepth 20000 in
theorem ggL_does_L_isLowered : GoodIn wsL_does wsL_isLowered := goodIn_r _ [230, 224, 225, 226, 4, 227, 6, 175, 176, 177, 178, 21, 22, 93, 94, 95, 96, 97, 98, 18, 19, 20, 179, 180, 181, 52, 182, 56, 183, 158, 105, 159, 82, 83, 84, 85, 17, 62, 63, 64, 65, 16, 231, 232, 233, 234, 235, 236, 237, 26, 238, 33, 129, 130, 131, 132, 36, 34, 239, 240, 241, 242, 30, 31, 137, 138, 139, 140, 35, 107, 108, 109, 110, 28, 29, 196, 197, 198, 199, 45, 46, 47, 48, 149, 150, 151, 152, 32, 141, 142, 143, 144, 145, 146, 147, 148, 78, 79, 80, 81, 153, 154, 155, 156, 157, 160, 161, 162, 163, 164, 165, 166, 167, 243, 244, 245, 246, 247, 104, 106, 57, 58, 59, 60, 61, 1, 2, 3, 5, 248, 249, 250, 251, 216, 217, 89, 90, 91, 92, 99, 100, 101, 102, 103, 74, 75, 76, 77, 252, 253, 254, 255, 256, 257, 258, 259, 260, 261, 262, 263, 264, 265, 266, 267] (by decide +kernel) (by decide +kernel)
set_option maxRecDepth 20000 in
theorem gL_does_L_isLowered : GoodIn wsL_does (va_wsS RL 43 yL_isLowered wsL_isLowered) := goodIn_app (goodIn_of _ (by decide +kernel)) ggL_does_L_isLowered
theorem dL_does_0 : decode cL_does 0 = .ok (.aload_n 0, 1) := by decide +kernel
theorem dL_does_1 : decode cL_does 1 = .ok (.invokevirtual 8, 3) := by decide +kernel
theorem dL_does_4 : decode cL_does 4 = .ok (.istore_n 3, 1) := by decide +kernel
theorem dL_does_5 : decode cL_does 5 = .ok (.iload_n 2, 1) := by decide +kernel
theorem dL_does_6 : decode cL_does 6 = .ok (.iload_n 3, 1) := by decide +kernel
theorem dL_does_7 : decode cL_does 7 = .ok (.invokestatic 14, 3) := by decide +kernel
theorem dL_does_10 : decode cL_does 10 = .ok (.istore 4, 2) := by decide +kernel
theorem dL_does_12 : decode cL_does 12 = .ok (.iload 4, 2) := by decide +kernel
theorem dL_does_14 : decode cL_does 14 = .ok (.iload_n 2, 1) := by decide +kernel
theorem dL_does_15 : decode cL_does 15 = .ok (.iconst 4, 1) := by decide +kernel
theorem dL_does_16 : decode cL_does 16 = .ok (.ishr, 1) := by decide +kernel
theorem dL_does_17 : decode cL_does 17 = .ok (.iload_n 3, 1) := by decide +kernel
theorem dL_does_18 : decode cL_does 18 = .ok (.iload 4, 2) := by decide +kernel
theorem dL_does_20 : decode cL_does 20 = .ok (.isub, 1) := by decide +kernel
theorem dL_does_21 : decode cL_does 21 = .ok (.invokestatic 14, 3) := by decide +kernel
theorem dL_does_24 : decode cL_does 24 = .ok (.iadd, 1) := by decide +kernel
theorem dL_does_25 : decode cL_does 25 = .ok (.istore 5, 2) := by decide +kernel
theorem dL_does_27 : decode cL_does 27 = .ok (.iload_n 1, 1) := by decide +kernel
theorem dL_does_28 : decode cL_does 28 = .ok (.bipush 15, 2) := by decide +kernel
theorem dL_does_30 : decode cL_does 30 = .ok (.iand, 1) := by decide +kernel
theorem dL_does_31 : decode cL_does 31 = .ok (.tableswitch 176 0 6 #[41, 129, 129, 129, 129, 129, 167], 41) := by decide +kernel
theorem dL_does_72 : decode cL_does 72 = .ok (.iconst 1, 1) := by decide +kernel
theorem dL_does_73 : decode cL_does 73 = .ok (.iload_n 2, 1) := by decide +kernel
theorem dL_does_74 : decode cL_does 74 = .ok (.bipush 64, 2) := by decide +kernel
theorem dL_does_76 : decode cL_does 76 = .ok (.invokestatic 14, 3) := by decide +kernel
theorem dL_does_79 : decode cL_does 79 = .ok (.iadd, 1) := by decide +kernel
theorem dL_does_80 : decode cL_does 80 = .ok (.istore 6, 2) := by decide +kernel
theorem dL_does_82 : decode cL_does 82 = .ok (.iload_n 2, 1) := by decide +kernel
theorem dL_does_83 : decode cL_does 83 = .ok (.bipush 6, 2) := by decide +kernel
theorem dL_does_85 : decode cL_does 85 = .ok (.ishr, 1) := by decide +kernel
theorem dL_does_86 : decode cL_does 86 = .ok (.sipush 1001, 3) := by decide +kernel
theorem dL_does_89 : decode cL_does 89 = .ok (.invokestatic 14, 3) := by decide +kernel
theorem dL_does_92 : decode cL_does 92 = .ok (.istore 7, 2) := by decide +kernel
theorem dL_does_94 : decode cL_does 94 = .ok (.iload_n 1, 1) := by decide +kernel
theorem dL_does_95 : decode cL_does 95 = .ok (.bipush 48, 2) := by decide +kernel
theorem dL_does_97 : decode cL_does 97 = .ok (.iand, 1) := by decide +kernel
theorem dL_does_98 : decode cL_does 98 = .ok (.ifCond .gt 56, 3) := by decide +kernel
theorem dL_does_101 : decode cL_does 101 = .ok (.aload_n 0, 1) := by decide +kernel
theorem dL_does_102 : decode cL_does 102 = .ok (.iload 6, 2) := by decide +kernel
theorem dL_does_104 : decode cL_does 104 = .ok (.iload 7, 2) := by decide +kernel
theorem dL_does_106 : decode cL_does 106 = .ok (.invokevirtual 20, 3) := by decide +kernel
theorem dL_does_109 : decode cL_does 109 = .ok (.iload 6, 2) := by decide +kernel
theorem dL_does_111 : decode cL_does 111 = .ok (.iload 7, 2) := by decide +kernel
theorem dL_does_113 : decode cL_does 113 = .ok (.imul, 1) := by decide +kernel
theorem dL_does_114 : decode cL_does 114 = .ok (.if_icmp .ne 44, 3) := by decide +kernel
theorem dL_does_117 : decode cL_does 117 = .ok (.aload_n 0, 1) := by decide +kernel
theorem dL_does_118 : decode cL_does 118 = .ok (.invokevirtual 8, 3) := by decide +kernel
theorem dL_does_121 : decode cL_does 121 = .ok (.iload 6, 2) := by decide +kernel
theorem dL_does_123 : decode cL_does 123 = .ok (.if_icmp .ne 35, 3) := by decide +kernel
theorem dL_does_126 : decode cL_does 126 = .ok (.aload_n 0, 1) := by decide +kernel
theorem dL_does_127 : decode cL_does 127 = .ok (.invokevirtual 23, 3) := by decide +kernel
theorem dL_does_130 : decode cL_does 130 = .ok (.ifCond .ne 28, 3) := by decide +kernel
theorem dL_does_133 : decode cL_does 133 = .ok (.aload_n 0, 1) := by decide +kernel
theorem dL_does_134 : decode cL_does 134 = .ok (.invokevirtual 26, 3) := by decide +kernel
theorem dL_does_137 : decode cL_does 137 = .ok (.ifCond .ne 21, 3) := by decide +kernel
theorem dL_does_140 : decode cL_does 140 = .ok (.aload_n 0, 1) := by decide +kernel
theorem dL_does_141 : decode cL_does 141 = .ok (.invokevirtual 29, 3) := by decide +kernel
theorem dL_does_144 : decode cL_does 144 = .ok (.ifCond .ne 14, 3) := by decide +kernel
theorem dL_does_147 : decode cL_does 147 = .ok (.aload_n 0, 1) := by decide +kernel
theorem dL_does_148 : decode cL_does 148 = .ok (.invokevirtual 32, 3) := by decide +kernel
theorem dL_does_151 : decode cL_does 151 = .ok (.ifCond .ne 7, 3) := by decide +kernel
theorem dL_does_154 : decode cL_does 154 = .ok (.iconst 1, 1) := by decide +kernel
theorem dL_does_155 : decode cL_does 155 = .ok (.goto 4, 3) := by decide +kernel
theorem dL_does_158 : decode cL_does 158 = .ok (.iconst 0, 1) := by decide +kernel
theorem dL_does_159 : decode cL_does 159 = .ok (.ireturn, 1) := by decide +kernel
theorem dL_does_160 : decode cL_does 160 = .ok (.aload_n 0, 1) := by decide +kernel
theorem dL_does_161 : decode cL_does 161 = .ok (.iload 4, 2) := by decide +kernel
theorem dL_does_163 : decode cL_does 163 = .ok (.iconst 1, 1) := by decide +kernel
theorem dL_does_164 : decode cL_does 164 = .ok (.iload_n 1, 1) := by decide +kernel
theorem dL_does_165 : decode cL_does 165 = .ok (.iconst 4, 1) := by decide +kernel
theorem dL_does_166 : decode cL_does 166 = .ok (.ishr, 1) := by decide +kernel
theorem dL_does_167 : decode cL_does 167 = .ok (.iload_n 1, 1) := by decide +kernel
theorem dL_does_168 : decode cL_does 168 = .ok (.bipush 64, 2) := by decide +kernel
theorem dL_does_170 : decode cL_does 170 = .ok (.iand, 1) := by decide +kernel
theorem dL_does_171 : decode cL_does 171 = .ok (.ifCond .ne 9, 3) := by decide +kernel
theorem dL_does_174 : decode cL_does 174 = .ok (.sipush 1000, 3) := by decide +kernel
theorem dL_does_177 : decode cL_does 177 = .ok (.goto 5, 3) := by decide +kernel
theorem dL_does_180 : decode cL_does 180 = .ok (.bipush 90, 2) := by decide +kernel
theorem dL_does_182 : decode cL_does 182 = .ok (.invokestatic 14, 3) := by decide +kernel
theorem dL_does_185 : decode cL_does 185 = .ok (.iadd, 1) := by decide +kernel
theorem dL_does_186 : decode cL_does 186 = .ok (.iload_n 1, 1) := by decide +kernel
theorem dL_does_187 : decode cL_does 187 = .ok (.bipush 7, 2) := by decide +kernel
theorem dL_does_189 : decode cL_does 189 = .ok (.ishr, 1) := by decide +kernel
theorem dL_does_190 : decode cL_does 190 = .ok (.iload_n 3, 1) := by decide +kernel
theorem dL_does_191 : decode cL_does 191 = .ok (.invokestatic 14, 3) := by decide +kernel
theorem dL_does_194 : decode cL_does 194 = .ok (.invokestatic 35, 3) := by decide +kernel
theorem dL_does_197 : decode cL_does 197 = .ok (.ireturn, 1) := by decide +kernel
theorem dL_does_198 : decode cL_does 198 = .ok (.aload_n 0, 1) := by decide +kernel
theorem dL_does_199 : decode cL_does 199 = .ok (.iload 4, 2) := by decide +kernel
theorem dL_does_201 : decode cL_does 201 = .ok (.iload 5, 2) := by decide +kernel
theorem dL_does_203 : decode cL_does 203 = .ok (.invokestatic 39, 3) := by decide +kernel
theorem dL_does_206 : decode cL_does 206 = .ok (.ireturn, 1) := by decide +kernel
theorem dL_does_207 : decode cL_does 207 = .ok (.aload_n 0, 1) := by decide +kernel
theorem dL_does_208 : decode cL_does 208 = .ok (.iload 4, 2) := by decide +kernel
theorem dL_does_210 : decode cL_does 210 = .ok (.iload 5, 2) := by decide +kernel
theorem dL_does_212 : decode cL_does 212 = .ok (.iload_n 1, 1) := by decide +kernel
theorem dL_does_213 : decode cL_does 213 = .ok (.iconst 4, 1) := by decide +kernel
theorem dL_does_214 : decode cL_does 214 = .ok (.ishr, 1) := by decide +kernel
theorem dL_does_215 : decode cL_does 215 = .ok (.iload_n 1, 1) := by decide +kernel
theorem dL_does_216 : decode cL_does 216 = .ok (.bipush 16, 2) := by decide +kernel
theorem dL_does_218 : decode cL_does 218 = .ok (.iand, 1) := by decide +kernel
theorem dL_does_219 : decode cL_does 219 = .ok (.ifCond .ne 9, 3) := by decide +kernel
theorem dL_does_222 : decode cL_does 222 = .ok (.sipush 1001, 3) := by decide +kernel
theorem dL_does_225 : decode cL_does 225 = .ok (.goto 6, 3) := by decide +kernel
theorem dL_does_228 : decode cL_does 228 = .ok (.sipush 300, 3) := by decide +kernel
theorem dL_does_231 : decode cL_does 231 = .ok (.invokestatic 14, 3) := by decide +kernel
theorem dL_does_234 : decode cL_does 234 = .ok (.invokestatic 43, 3) := by decide +kernel
theorem dL_does_237 : decode cL_does 237 = .ok (.ireturn, 1) := by decide +kernel
set_option maxRecDepth 20000 in
theorem ggL_isPiled_X2_height : GoodIn wsL_isPiled wsX2_height := goodIn_r _ [5, 6, 7, 8, 9, 4, 10, 11, 12, 13, 14, 15, 16, 17, 18, 19, 20, 21, 22, 23, 24, 25, 26, 27, 28, 29, 30, 31, 32, 33, 122, 123, 124, 125, 126, 127, 128, 129, 130, 131, 132, 133, 134, 135, 136, 137] (by decide +kernel) (by decide +kernel)
set_option maxRecDepth 20000 in
theorem gL_isPiled_X2_height : GoodIn wsL_isPiled (wsV RL 46 RX2 yX2_height wsX2_height) := goodIn_app (goodIn_of _ (by decide +kernel)) ggL_isPiled_X2_height
set_option maxRecDepth 20000 in
theorem ggL_isPiled_X2_heightOfColumn : GoodIn wsL_isPiled wsX2_heightOfColumn := goodIn_r _ [37, 13, 7, 8, 9, 4, 10, 11, 12, 122, 123, 124, 125, 126, 127, 128] (by decide +kernel) (by decide +kernel)
set_option maxRecDepth 20000 in
theorem gL_isPiled_X2_heightOfColumn : GoodIn wsL_isPiled (wsV RL 50 RX2 yX2_heightOfColumn wsX2_heightOfColumn) := goodIn_app (goodIn_of _ (by decide +kernel)) ggL_isPiled_X2_heightOfColumn
set_option maxRecDepth 20000 in
theorem ggL_isPiled_X2_allVisits : GoodIn wsL_isPiled wsX2_allVisits := goodIn_r _ [41, 6, 122, 123, 124, 129, 130, 131, 132, 133, 134, 135, 136, 137] (by decide +kernel) (by decide +kernel)
set_option maxRecDepth 20000 in
theorem gL_isPiled_X2_allVisits : GoodIn wsL_isPiled (wsV RL 26 RX2 yX2_allVisits wsX2_allVisits) := goodIn_app (goodIn_of _ (by decide +kernel)) ggL_isPiled_X2_allVisits
set_option maxRecDepth 20000 in
theorem ggL_isPiled_X2_pile : GoodIn wsL_isPiled wsX2_pile := goodIn_r _ [45, 46, 47, 13, 6, 7, 8, 9, 4, 10, 11, 12, 48, 49, 50, 51, 52, 53, 54, 55, 56, 57, 58, 59, 60, 61, 62, 63, 17, 64, 65, 66, 67, 68, 69, 70, 71, 72, 73, 74, 19, 75, 28, 76, 77, 78, 79, 80, 81, 82, 83, 84, 33, 85, 86, 87, 88, 89, 90, 91, 92, 93, 94, 95, 96, 97, 98, 99, 100, 101, 102, 103, 104, 105, 106, 107, 22, 108, 109, 110, 111, 112, 113, 114, 115, 116, 117, 122, 123, 124, 125, 126, 127, 128, 129, 130, 131, 132, 133, 134, 135, 136, 137] (by decide +kernel) (by decide +kernel)
set_option maxRecDepth 20000 in
theorem gL_isPiled_X2_pile : GoodIn wsL_isPiled (wsV RL 53 RX2 yX2_pile wsX2_pile) := goodIn_app (goodIn_of _ (by decide +kernel)) ggL_isPiled_X2_pile
set_option maxRecDepth 20000 in
theorem ggL_isPiled_X2_visits : GoodIn wsL_isPiled wsX2_visits := goodIn_r _ [121, 6, 122, 123, 124, 129, 130, 131, 132, 133, 134, 135, 136, 137] (by decide +kernel) (by decide +kernel)
set_option maxRecDepth 20000 in
theorem gL_isPiled_X2_visits : GoodIn wsL_isPiled (wsV RL 23 RX2 yX2_visits wsX2_visits) := goodIn_app (goodIn_of _ (by decide +kernel)) ggL_isPiled_X2_visits
theorem dL_isPiled_0 : decode cL_isPiled 0 = .ok (.aload_n 0, 1) := by decide +kernel
theorem dL_isPiled_1 : decode cL_isPiled 1 = .ok (.iload_n 1, 1) := by decide +kernel
theorem dL_isPiled_2 : decode cL_isPiled 2 = .ok (.invokevirtual 46, 3) := by decide +kernel
theorem dL_isPiled_5 : decode cL_isPiled 5 = .ok (.istore 4, 2) := by decide +kernel
theorem dL_isPiled_7 : decode cL_isPiled 7 = .ok (.iload 4, 2) := by decide +kernel
theorem dL_isPiled_9 : decode cL_isPiled 9 = .ok (.iload_n 2, 1) := by decide +kernel
theorem dL_isPiled_10 : decode cL_isPiled 10 = .ok (.iadd, 1) := by decide +kernel
theorem dL_isPiled_11 : decode cL_isPiled 11 = .ok (.sipush 1000, 3) := by decide +kernel
theorem dL_isPiled_14 : decode cL_isPiled 14 = .ok (.if_icmp .le 5, 3) := by decide +kernel
theorem dL_isPiled_17 : decode cL_isPiled 17 = .ok (.iconst 1, 1) := by decide +kernel
theorem dL_isPiled_18 : decode cL_isPiled 18 = .ok (.ireturn, 1) := by decide +kernel
theorem dL_isPiled_19 : decode cL_isPiled 19 = .ok (.aload_n 0, 1) := by decide +kernel
theorem dL_isPiled_20 : decode cL_isPiled 20 = .ok (.iload_n 3, 1) := by decide +kernel
theorem dL_isPiled_21 : decode cL_isPiled 21 = .ok (.invokevirtual 50, 3) := by decide +kernel
theorem dL_isPiled_24 : decode cL_isPiled 24 = .ok (.istore 5, 2) := by decide +kernel
theorem dL_isPiled_26 : decode cL_isPiled 26 = .ok (.aload_n 0, 1) := by decide +kernel
theorem dL_isPiled_27 : decode cL_isPiled 27 = .ok (.invokevirtual 26, 3) := by decide +kernel
theorem dL_isPiled_30 : decode cL_isPiled 30 = .ok (.istore 6, 2) := by decide +kernel
theorem dL_isPiled_32 : decode cL_isPiled 32 = .ok (.aload_n 0, 1) := by decide +kernel
theorem dL_isPiled_33 : decode cL_isPiled 33 = .ok (.iload_n 1, 1) := by decide +kernel
theorem dL_isPiled_34 : decode cL_isPiled 34 = .ok (.iload_n 2, 1) := by decide +kernel
theorem dL_isPiled_35 : decode cL_isPiled 35 = .ok (.invokevirtual 53, 3) := by decide +kernel
theorem dL_isPiled_38 : decode cL_isPiled 38 = .ok (.iload 4, 2) := by decide +kernel
theorem dL_isPiled_40 : decode cL_isPiled 40 = .ok (.iload_n 2, 1) := by decide +kernel
theorem dL_isPiled_41 : decode cL_isPiled 41 = .ok (.iadd, 1) := by decide +kernel
theorem dL_isPiled_42 : decode cL_isPiled 42 = .ok (.if_icmp .ne 34, 3) := by decide +kernel
theorem dL_isPiled_45 : decode cL_isPiled 45 = .ok (.aload_n 0, 1) := by decide +kernel
theorem dL_isPiled_46 : decode cL_isPiled 46 = .ok (.iload_n 1, 1) := by decide +kernel
theorem dL_isPiled_47 : decode cL_isPiled 47 = .ok (.invokevirtual 46, 3) := by decide +kernel
theorem dL_isPiled_50 : decode cL_isPiled 50 = .ok (.iload 4, 2) := by decide +kernel
theorem dL_isPiled_52 : decode cL_isPiled 52 = .ok (.iload_n 2, 1) := by decide +kernel
theorem dL_isPiled_53 : decode cL_isPiled 53 = .ok (.iadd, 1) := by decide +kernel
theorem dL_isPiled_54 : decode cL_isPiled 54 = .ok (.if_icmp .ne 22, 3) := by decide +kernel
theorem dL_isPiled_57 : decode cL_isPiled 57 = .ok (.iload_n 3, 1) := by decide +kernel
theorem dL_isPiled_58 : decode cL_isPiled 58 = .ok (.iload_n 1, 1) := by decide +kernel
theorem dL_isPiled_59 : decode cL_isPiled 59 = .ok (.if_icmp .eq 13, 3) := by decide +kernel
theorem dL_isPiled_62 : decode cL_isPiled 62 = .ok (.aload_n 0, 1) := by decide +kernel
theorem dL_isPiled_63 : decode cL_isPiled 63 = .ok (.iload_n 3, 1) := by decide +kernel
theorem dL_isPiled_64 : decode cL_isPiled 64 = .ok (.invokevirtual 50, 3) := by decide +kernel
theorem dL_isPiled_67 : decode cL_isPiled 67 = .ok (.iload 5, 2) := by decide +kernel
theorem dL_isPiled_69 : decode cL_isPiled 69 = .ok (.if_icmp .ne 7, 3) := by decide +kernel
theorem dL_isPiled_72 : decode cL_isPiled 72 = .ok (.iconst 1, 1) := by decide +kernel
theorem dL_isPiled_73 : decode cL_isPiled 73 = .ok (.goto 4, 3) := by decide +kernel
theorem dL_isPiled_76 : decode cL_isPiled 76 = .ok (.iconst 0, 1) := by decide +kernel
theorem dL_isPiled_77 : decode cL_isPiled 77 = .ok (.istore 7, 2) := by decide +kernel
theorem dL_isPiled_79 : decode cL_isPiled 79 = .ok (.iload 7, 2) := by decide +kernel
theorem dL_isPiled_81 : decode cL_isPiled 81 = .ok (.ifCond .eq 38, 3) := by decide +kernel
theorem dL_isPiled_84 : decode cL_isPiled 84 = .ok (.aload_n 0, 1) := by decide +kernel
theorem dL_isPiled_85 : decode cL_isPiled 85 = .ok (.invokevirtual 23, 3) := by decide +kernel
theorem dL_isPiled_88 : decode cL_isPiled 88 = .ok (.iconst 1, 1) := by decide +kernel
theorem dL_isPiled_89 : decode cL_isPiled 89 = .ok (.if_icmp .lt 30, 3) := by decide +kernel
theorem dL_isPiled_92 : decode cL_isPiled 92 = .ok (.aload_n 0, 1) := by decide +kernel
theorem dL_isPiled_93 : decode cL_isPiled 93 = .ok (.invokevirtual 23, 3) := by decide +kernel
theorem dL_isPiled_96 : decode cL_isPiled 96 = .ok (.bipush 7, 2) := by decide +kernel
theorem dL_isPiled_98 : decode cL_isPiled 98 = .ok (.if_icmp .gt 21, 3) := by decide +kernel
theorem dL_isPiled_101 : decode cL_isPiled 101 = .ok (.aload_n 0, 1) := by decide +kernel
theorem dL_isPiled_102 : decode cL_isPiled 102 = .ok (.invokevirtual 26, 3) := by decide +kernel
theorem dL_isPiled_105 : decode cL_isPiled 105 = .ok (.iload 6, 2) := by decide +kernel
theorem dL_isPiled_107 : decode cL_isPiled 107 = .ok (.aload_n 0, 1) := by decide +kernel
theorem dL_isPiled_108 : decode cL_isPiled 108 = .ok (.invokevirtual 23, 3) := by decide +kernel
theorem dL_isPiled_111 : decode cL_isPiled 111 = .ok (.iadd, 1) := by decide +kernel
theorem dL_isPiled_112 : decode cL_isPiled 112 = .ok (.if_icmp .ne 7, 3) := by decide +kernel
theorem dL_isPiled_115 : decode cL_isPiled 115 = .ok (.iconst 1, 1) := by decide +kernel
theorem dL_isPiled_116 : decode cL_isPiled 116 = .ok (.goto 4, 3) := by decide +kernel
theorem dL_isPiled_119 : decode cL_isPiled 119 = .ok (.iconst 0, 1) := by decide +kernel
theorem dL_isPiled_120 : decode cL_isPiled 120 = .ok (.ireturn, 1) := by decide +kernel
set_option maxRecDepth 20000 in
theorem ggL_isAsked_X2_earthByColumns : GoodIn wsL_isAsked wsX2_earthByColumns := goodIn_r _ [5, 6, 7, 8, 9, 4, 10, 11, 12, 13, 14, 15, 16, 17, 18, 19, 20, 21, 22, 23, 24, 25, 26, 27, 28, 131, 132, 133, 134, 135, 136, 137] (by decide +kernel) (by decide +kernel)
set_option maxRecDepth 20000 in
theorem gL_isAsked_X2_earthByColumns : GoodIn wsL_isAsked (wsV RL 56 RX2 yX2_earthByColumns wsX2_earthByColumns) := goodIn_app (goodIn_of _ (by decide +kernel)) ggL_isAsked_X2_earthByColumns
set_option maxRecDepth 20000 in
theorem ggL_isAsked_X2_heightOfColumn : GoodIn wsL_isAsked wsX2_heightOfColumn := goodIn_r _ [32, 6, 13, 14, 15, 4, 16, 17, 18, 131, 132, 133, 134, 135, 136, 137] (by decide +kernel) (by decide +kernel)
set_option maxRecDepth 20000 in
theorem gL_isAsked_X2_heightOfColumn : GoodIn wsL_isAsked (wsV RL 50 RX2 yX2_heightOfColumn wsX2_heightOfColumn) := goodIn_app (goodIn_of _ (by decide +kernel)) ggL_isAsked_X2_heightOfColumn
set_option maxRecDepth 20000 in
theorem ggL_isAsked_X2_earth : GoodIn wsL_isAsked wsX2_earth := goodIn_r _ [36, 37, 7, 8, 9, 4, 10, 11, 12, 13, 14, 15, 16, 17, 18, 6, 38, 39, 40, 41, 42, 43, 44, 45, 46, 47, 48, 49, 50, 51, 52, 53, 54, 55, 56, 57, 58, 59, 60, 61, 62, 63, 64, 65, 66, 67, 68, 69, 70, 71, 72, 73, 74, 75, 76, 77, 78, 79, 80, 81, 82, 83, 84, 85, 86, 87, 88, 89, 90, 131, 132, 133, 134, 135, 136, 137, 138, 139, 140, 141, 142, 143, 144, 145, 146] (by decide +kernel) (by decide +kernel)
set_option maxRecDepth 20000 in
theorem gL_isAsked_X2_earth : GoodIn wsL_isAsked (wsV RL 59 RX2 yX2_earth wsX2_earth) := goodIn_app (goodIn_of _ (by decide +kernel)) ggL_isAsked_X2_earth
set_option maxRecDepth 20000 in
theorem ggL_isAsked_X2_visits : GoodIn wsL_isAsked wsX2_visits := goodIn_r _ [94, 37, 131, 132, 133, 138, 139, 140, 141, 142, 143, 144, 145, 146] (by decide +kernel) (by decide +kernel)
set_option maxRecDepth 20000 in
theorem gL_isAsked_X2_visits : GoodIn wsL_isAsked (wsV RL 23 RX2 yX2_visits wsX2_visits) := goodIn_app (goodIn_of _ (by decide +kernel)) ggL_isAsked_X2_visits
set_option maxRecDepth 20000 in
theorem ggL_isAsked_X2_columns : GoodIn wsL_isAsked wsX2_columns := goodIn_r _ [98, 6, 131, 132, 133, 134, 135, 136, 137] (by decide +kernel) (by decide +kernel)
set_option maxRecDepth 20000 in
theorem gL_isAsked_X2_columns : GoodIn wsL_isAsked (wsV RL 8 RX2 yX2_columns wsX2_columns) := goodIn_app (goodIn_of _ (by decide +kernel)) ggL_isAsked_X2_columns
set_option maxRecDepth 20000 in
theorem ggL_isAsked_X2_top : GoodIn wsL_isAsked wsX2_top := goodIn_r _ [102, 37, 7, 8, 9, 4, 10, 11, 12, 13, 14, 15, 16, 17, 18, 6, 103, 104, 105, 41, 106, 43, 44, 45, 46, 47, 48, 107, 108, 109, 110, 81, 111, 26, 27, 28, 54, 55, 56, 57, 58, 59, 60, 61, 62, 63, 64, 65, 66, 67, 68, 69, 70, 71, 72, 73, 74, 75, 76, 77, 78, 79, 80, 82, 83, 84, 85, 86, 87, 88, 89, 53, 90, 131, 132, 133, 134, 135, 136, 137, 138, 139, 140, 141, 142, 143, 144, 145, 146] (by decide +kernel) (by decide +kernel)
set_option maxRecDepth 20000 in
theorem gL_isAsked_X2_top : GoodIn wsL_isAsked (wsV RL 62 RX2 yX2_top wsX2_top) := goodIn_app (goodIn_of _ (by decide +kernel)) ggL_isAsked_X2_top
set_option maxRecDepth 20000 in
theorem ggL_isAsked_X2_ceilingFor : GoodIn wsL_isAsked wsX2_ceilingFor := goodIn_r _ [115, 116, 117, 118, 6, 7, 8, 9, 4, 10, 11, 12, 13, 14, 15, 16, 17, 18, 119, 120, 121, 122, 123, 124, 22, 125, 126, 20, 21, 23, 24, 25, 26, 27, 28, 131, 132, 133, 134, 135, 136, 137] (by decide +kernel) (by decide +kernel)
set_option maxRecDepth 20000 in
theorem gL_isAsked_X2_ceilingFor : GoodIn wsL_isAsked (wsV RL 65 RX2 yX2_ceilingFor wsX2_ceilingFor) := goodIn_app (goodIn_of _ (by decide +kernel)) ggL_isAsked_X2_ceilingFor
set_option maxRecDepth 20000 in
theorem ggL_isAsked_X2_wouldPress : GoodIn wsL_isAsked wsX2_wouldPress := goodIn_r _ [130, 6, 7, 8, 9, 4, 10, 11, 12, 13, 14, 15, 16, 17, 18, 119, 120, 121, 19, 20, 21, 22, 23, 24, 25, 26, 27, 28, 131, 132, 133, 134, 135, 136, 137] (by decide +kernel) (by decide +kernel)
set_option maxRecDepth 20000 in
theorem gL_isAsked_X2_wouldPress : GoodIn wsL_isAsked (wsV RL 69 RX2 yX2_wouldPress wsX2_wouldPress) := goodIn_app (goodIn_of _ (by decide +kernel)) ggL_isAsked_X2_wouldPress
theorem dL_isAsked_0 : decode cL_isAsked 0 = .ok (.aload_n 0, 1) := by decide +kernel
theorem dL_isAsked_1 : decode cL_isAsked 1 = .ok (.iload_n 1, 1) := by decide +kernel
theorem dL_isAsked_2 : decode cL_isAsked 2 = .ok (.iload_n 2, 1) := by decide +kernel
theorem dL_isAsked_3 : decode cL_isAsked 3 = .ok (.invokevirtual 56, 3) := by decide +kernel
theorem dL_isAsked_6 : decode cL_isAsked 6 = .ok (.istore_n 3, 1) := by decide +kernel
theorem dL_isAsked_7 : decode cL_isAsked 7 = .ok (.iconst 0, 1) := by decide +kernel
theorem dL_isAsked_8 : decode cL_isAsked 8 = .ok (.istore 4, 2) := by decide +kernel
theorem dL_isAsked_10 : decode cL_isAsked 10 = .ok (.iload_n 1, 1) := by decide +kernel
theorem dL_isAsked_11 : decode cL_isAsked 11 = .ok (.istore 5, 2) := by decide +kernel
theorem dL_isAsked_13 : decode cL_isAsked 13 = .ok (.iload 5, 2) := by decide +kernel
theorem dL_isAsked_15 : decode cL_isAsked 15 = .ok (.iload_n 2, 1) := by decide +kernel
theorem dL_isAsked_16 : decode cL_isAsked 16 = .ok (.if_icmp .gt 33, 3) := by decide +kernel
theorem dL_isAsked_19 : decode cL_isAsked 19 = .ok (.aload_n 0, 1) := by decide +kernel
theorem dL_isAsked_20 : decode cL_isAsked 20 = .ok (.iload 5, 2) := by decide +kernel
theorem dL_isAsked_22 : decode cL_isAsked 22 = .ok (.invokevirtual 50, 3) := by decide +kernel
theorem dL_isAsked_25 : decode cL_isAsked 25 = .ok (.iload 4, 2) := by decide +kernel
theorem dL_isAsked_27 : decode cL_isAsked 27 = .ok (.if_icmp .le 12, 3) := by decide +kernel
theorem dL_isAsked_30 : decode cL_isAsked 30 = .ok (.aload_n 0, 1) := by decide +kernel
theorem dL_isAsked_31 : decode cL_isAsked 31 = .ok (.iload 5, 2) := by decide +kernel
theorem dL_isAsked_33 : decode cL_isAsked 33 = .ok (.invokevirtual 50, 3) := by decide +kernel
theorem dL_isAsked_36 : decode cL_isAsked 36 = .ok (.goto 5, 3) := by decide +kernel
theorem dL_isAsked_39 : decode cL_isAsked 39 = .ok (.iload 4, 2) := by decide +kernel
theorem dL_isAsked_41 : decode cL_isAsked 41 = .ok (.istore 4, 2) := by decide +kernel
theorem dL_isAsked_43 : decode cL_isAsked 43 = .ok (.iinc 5 1, 3) := by decide +kernel
theorem dL_isAsked_46 : decode cL_isAsked 46 = .ok (.goto (-33), 3) := by decide +kernel
theorem dL_isAsked_49 : decode cL_isAsked 49 = .ok (.aload_n 0, 1) := by decide +kernel
theorem dL_isAsked_50 : decode cL_isAsked 50 = .ok (.iload_n 1, 1) := by decide +kernel
theorem dL_isAsked_51 : decode cL_isAsked 51 = .ok (.iload_n 2, 1) := by decide +kernel
theorem dL_isAsked_52 : decode cL_isAsked 52 = .ok (.invokevirtual 59, 3) := by decide +kernel
theorem dL_isAsked_55 : decode cL_isAsked 55 = .ok (.iload_n 3, 1) := by decide +kernel
theorem dL_isAsked_56 : decode cL_isAsked 56 = .ok (.if_icmp .ne 39, 3) := by decide +kernel
theorem dL_isAsked_59 : decode cL_isAsked 59 = .ok (.aload_n 0, 1) := by decide +kernel
theorem dL_isAsked_60 : decode cL_isAsked 60 = .ok (.invokevirtual 23, 3) := by decide +kernel
theorem dL_isAsked_63 : decode cL_isAsked 63 = .ok (.iconst 1, 1) := by decide +kernel
theorem dL_isAsked_64 : decode cL_isAsked 64 = .ok (.if_icmp .lt 31, 3) := by decide +kernel
theorem dL_isAsked_67 : decode cL_isAsked 67 = .ok (.aload_n 0, 1) := by decide +kernel
theorem dL_isAsked_68 : decode cL_isAsked 68 = .ok (.invokevirtual 23, 3) := by decide +kernel
theorem dL_isAsked_71 : decode cL_isAsked 71 = .ok (.iconst 2, 1) := by decide +kernel
theorem dL_isAsked_72 : decode cL_isAsked 72 = .ok (.aload_n 0, 1) := by decide +kernel
theorem dL_isAsked_73 : decode cL_isAsked 73 = .ok (.invokevirtual 8, 3) := by decide +kernel
theorem dL_isAsked_76 : decode cL_isAsked 76 = .ok (.imul, 1) := by decide +kernel
theorem dL_isAsked_77 : decode cL_isAsked 77 = .ok (.if_icmp .gt 18, 3) := by decide +kernel
theorem dL_isAsked_80 : decode cL_isAsked 80 = .ok (.aload_n 0, 1) := by decide +kernel
theorem dL_isAsked_81 : decode cL_isAsked 81 = .ok (.iload_n 1, 1) := by decide +kernel
theorem dL_isAsked_82 : decode cL_isAsked 82 = .ok (.iload_n 2, 1) := by decide +kernel
theorem dL_isAsked_83 : decode cL_isAsked 83 = .ok (.invokevirtual 62, 3) := by decide +kernel
theorem dL_isAsked_86 : decode cL_isAsked 86 = .ok (.iload 4, 2) := by decide +kernel
theorem dL_isAsked_88 : decode cL_isAsked 88 = .ok (.if_icmp .ne 7, 3) := by decide +kernel
theorem dL_isAsked_91 : decode cL_isAsked 91 = .ok (.iconst 1, 1) := by decide +kernel
theorem dL_isAsked_92 : decode cL_isAsked 92 = .ok (.goto 4, 3) := by decide +kernel
theorem dL_isAsked_95 : decode cL_isAsked 95 = .ok (.iconst 0, 1) := by decide +kernel
theorem dL_isAsked_96 : decode cL_isAsked 96 = .ok (.istore 5, 2) := by decide +kernel
theorem dL_isAsked_98 : decode cL_isAsked 98 = .ok (.iload_n 3, 1) := by decide +kernel
theorem dL_isAsked_99 : decode cL_isAsked 99 = .ok (.ifCond .le 60, 3) := by decide +kernel
theorem dL_isAsked_102 : decode cL_isAsked 102 = .ok (.iconst 1, 1) := by decide +kernel
theorem dL_isAsked_103 : decode cL_isAsked 103 = .ok (.iload_n 3, 1) := by decide +kernel
theorem dL_isAsked_104 : decode cL_isAsked 104 = .ok (.iconst 3, 1) := by decide +kernel
theorem dL_isAsked_105 : decode cL_isAsked 105 = .ok (.idiv, 1) := by decide +kernel
theorem dL_isAsked_106 : decode cL_isAsked 106 = .ok (.iadd, 1) := by decide +kernel
theorem dL_isAsked_107 : decode cL_isAsked 107 = .ok (.istore 6, 2) := by decide +kernel
theorem dL_isAsked_109 : decode cL_isAsked 109 = .ok (.aload_n 0, 1) := by decide +kernel
theorem dL_isAsked_110 : decode cL_isAsked 110 = .ok (.iload_n 1, 1) := by decide +kernel
theorem dL_isAsked_111 : decode cL_isAsked 111 = .ok (.iload_n 2, 1) := by decide +kernel
theorem dL_isAsked_112 : decode cL_isAsked 112 = .ok (.iload 6, 2) := by decide +kernel
theorem dL_isAsked_114 : decode cL_isAsked 114 = .ok (.invokevirtual 65, 3) := by decide +kernel
theorem dL_isAsked_117 : decode cL_isAsked 117 = .ok (.istore 7, 2) := by decide +kernel
theorem dL_isAsked_119 : decode cL_isAsked 119 = .ok (.iload 5, 2) := by decide +kernel
theorem dL_isAsked_121 : decode cL_isAsked 121 = .ok (.ifCond .eq 35, 3) := by decide +kernel
theorem dL_isAsked_124 : decode cL_isAsked 124 = .ok (.aload_n 0, 1) := by decide +kernel
theorem dL_isAsked_125 : decode cL_isAsked 125 = .ok (.iload_n 1, 1) := by decide +kernel
theorem dL_isAsked_126 : decode cL_isAsked 126 = .ok (.iload_n 2, 1) := by decide +kernel
theorem dL_isAsked_127 : decode cL_isAsked 127 = .ok (.iload 7, 2) := by decide +kernel
theorem dL_isAsked_129 : decode cL_isAsked 129 = .ok (.invokevirtual 69, 3) := by decide +kernel
theorem dL_isAsked_132 : decode cL_isAsked 132 = .ok (.iload 6, 2) := by decide +kernel
theorem dL_isAsked_134 : decode cL_isAsked 134 = .ok (.if_icmp .lt 22, 3) := by decide +kernel
theorem dL_isAsked_137 : decode cL_isAsked 137 = .ok (.aload_n 0, 1) := by decide +kernel
theorem dL_isAsked_138 : decode cL_isAsked 138 = .ok (.iload_n 1, 1) := by decide +kernel
theorem dL_isAsked_139 : decode cL_isAsked 139 = .ok (.iload_n 2, 1) := by decide +kernel
theorem dL_isAsked_140 : decode cL_isAsked 140 = .ok (.iload 7, 2) := by decide +kernel
theorem dL_isAsked_142 : decode cL_isAsked 142 = .ok (.iconst 1, 1) := by decide +kernel
theorem dL_isAsked_143 : decode cL_isAsked 143 = .ok (.iadd, 1) := by decide +kernel
theorem dL_isAsked_144 : decode cL_isAsked 144 = .ok (.invokevirtual 69, 3) := by decide +kernel
theorem dL_isAsked_147 : decode cL_isAsked 147 = .ok (.iload 6, 2) := by decide +kernel
theorem dL_isAsked_149 : decode cL_isAsked 149 = .ok (.if_icmp .ge 7, 3) := by decide +kernel
theorem dL_isAsked_152 : decode cL_isAsked 152 = .ok (.iconst 1, 1) := by decide +kernel
theorem dL_isAsked_153 : decode cL_isAsked 153 = .ok (.goto 4, 3) := by decide +kernel
theorem dL_isAsked_156 : decode cL_isAsked 156 = .ok (.iconst 0, 1) := by decide +kernel
theorem dL_isAsked_157 : decode cL_isAsked 157 = .ok (.istore 5, 2) := by decide +kernel
theorem dL_isAsked_159 : decode cL_isAsked 159 = .ok (.iload 5, 2) := by decide +kernel
theorem dL_isAsked_161 : decode cL_isAsked 161 = .ok (.ifCond .eq 17, 3) := by decide +kernel
theorem dL_isAsked_164 : decode cL_isAsked 164 = .ok (.aload_n 0, 1) := by decide +kernel
theorem dL_isAsked_165 : decode cL_isAsked 165 = .ok (.iload_n 1, 1) := by decide +kernel
theorem dL_isAsked_166 : decode cL_isAsked 166 = .ok (.iload_n 2, 1) := by decide +kernel
theorem dL_isAsked_167 : decode cL_isAsked 167 = .ok (.invokevirtual 56, 3) := by decide +kernel
theorem dL_isAsked_170 : decode cL_isAsked 170 = .ok (.iload_n 3, 1) := by decide +kernel
theorem dL_isAsked_171 : decode cL_isAsked 171 = .ok (.if_icmp .ne 7, 3) := by decide +kernel
theorem dL_isAsked_174 : decode cL_isAsked 174 = .ok (.iconst 1, 1) := by decide +kernel
theorem dL_isAsked_175 : decode cL_isAsked 175 = .ok (.goto 4, 3) := by decide +kernel
theorem dL_isAsked_178 : decode cL_isAsked 178 = .ok (.iconst 0, 1) := by decide +kernel
theorem dL_isAsked_179 : decode cL_isAsked 179 = .ok (.ireturn, 1) := by decide +kernel
set_option maxRecDepth 20000 in
theorem ggL_isLowered_X2_wouldPress : GoodIn wsL_isLowered wsX2_wouldPress := goodIn_r _ [5, 6, 7, 8, 9, 4, 10, 11, 12, 13, 14, 15, 16, 17, 18, 19, 20, 21, 22, 23, 24, 25, 26, 27, 28, 29, 30, 31, 148, 149, 150, 151, 152, 153, 154] (by decide +kernel) (by decide +kernel)
set_option maxRecDepth 20000 in
theorem gL_isLowered_X2_wouldPress : GoodIn wsL_isLowered (wsV RL 69 RX2 yX2_wouldPress wsX2_wouldPress) := goodIn_app (goodIn_of _ (by decide +kernel)) ggL_isLowered_X2_wouldPress
set_option maxRecDepth 20000 in
theorem ggL_isLowered_X2_pressedAway : GoodIn wsL_isLowered wsX2_pressedAway := goodIn_r _ [35, 36, 148, 149, 150] (by decide +kernel) (by decide +kernel)
set_option maxRecDepth 20000 in
theorem gL_isLowered_X2_pressedAway : GoodIn wsL_isLowered (wsV RL 32 RX2 yX2_pressedAway wsX2_pressedAway) := goodIn_app (goodIn_of _ (by decide +kernel)) ggL_isLowered_X2_pressedAway
set_option maxRecDepth 20000 in
theorem ggL_isLowered_X2_allVisits : GoodIn wsL_isLowered wsX2_allVisits := goodIn_r _ [40, 41, 148, 149, 150, 155, 156, 157, 158, 159, 160, 161, 162, 163] (by decide +kernel) (by decide +kernel)
set_option maxRecDepth 20000 in
theorem gL_isLowered_X2_allVisits : GoodIn wsL_isLowered (wsV RL 26 RX2 yX2_allVisits wsX2_allVisits) := goodIn_app (goodIn_of _ (by decide +kernel)) ggL_isLowered_X2_allVisits
set_option maxRecDepth 20000 in
theorem ggL_isLowered_X2_lower : GoodIn wsL_isLowered wsX2_lower := goodIn_r _ [45, 41, 6, 36, 7, 8, 9, 4, 10, 11, 12, 13, 14, 15, 16, 17, 18, 19, 20, 21, 46, 47, 48, 49, 50, 51, 52, 53, 54, 55, 56, 57, 58, 59, 60, 61, 62, 63, 64, 65, 66, 67, 68, 69, 70, 71, 72, 73, 74, 75, 76, 77, 78, 79, 80, 81, 82, 83, 84, 85, 86, 87, 88, 89, 90, 91, 92, 93, 94, 95, 96, 97, 98, 99, 100, 101, 102, 103, 104, 29, 30, 31, 105, 106, 107, 108, 109, 110, 111, 112, 113, 114, 115, 25, 116, 27, 117, 118, 119, 120, 148, 149, 150, 151, 152, 153, 154, 155, 156, 157, 158, 159, 160, 161, 162, 163] (by decide +kernel) (by decide +kernel)
set_option maxRecDepth 20000 in
theorem gL_isLowered_X2_lower : GoodIn wsL_isLowered (wsV RL 72 RX2 yX2_lower wsX2_lower) := goodIn_app (goodIn_of _ (by decide +kernel)) ggL_isLowered_X2_lower
set_option maxRecDepth 20000 in
theorem ggL_isLowered_X2_visits : GoodIn wsL_isLowered wsX2_visits := goodIn_r _ [124, 41, 148, 149, 150, 155, 156, 157, 158, 159, 160, 161, 162, 163] (by decide +kernel) (by decide +kernel)
set_option maxRecDepth 20000 in
theorem gL_isLowered_X2_visits : GoodIn wsL_isLowered (wsV RL 23 RX2 yX2_visits wsX2_visits) := goodIn_app (goodIn_of _ (by decide +kernel)) ggL_isLowered_X2_visits
set_option maxRecDepth 20000 in
theorem ggL_isLowered_X2_columns : GoodIn wsL_isLowered wsX2_columns := goodIn_r _ [128, 6, 148, 149, 150, 151, 152, 153, 154] (by decide +kernel) (by decide +kernel)
set_option maxRecDepth 20000 in
theorem gL_isLowered_X2_columns : GoodIn wsL_isLowered (wsV RL 8 RX2 yX2_columns wsX2_columns) := goodIn_app (goodIn_of _ (by decide +kernel)) ggL_isLowered_X2_columns
set_option maxRecDepth 20000 in
theorem ggL_isLowered_X2_ceilingOver : GoodIn wsL_isLowered wsX2_ceilingOver := goodIn_r _ [132, 133, 134, 6, 13, 14, 15, 4, 16, 17, 18, 148, 149, 150, 151, 152, 153, 154] (by decide +kernel) (by decide +kernel)
set_option maxRecDepth 20000 in
theorem gL_isLowered_X2_ceilingOver : GoodIn wsL_isLowered (wsV RL 75 RX2 yX2_ceilingOver wsX2_ceilingOver) := goodIn_app (goodIn_of _ (by decide +kernel)) ggL_isLowered_X2_ceilingOver
set_option maxRecDepth 20000 in
theorem ggL_isLowered_X2_height : GoodIn wsL_isLowered wsX2_height := goodIn_r _ [138, 41, 13, 14, 15, 4, 16, 17, 18, 6, 139, 140, 141, 49, 142, 62, 143, 118, 30, 119, 144, 145, 146, 147, 73, 69, 70, 71, 72, 74, 148, 149, 150, 151, 152, 153, 154, 155, 156, 157, 158, 159, 160, 161, 162, 163] (by decide +kernel) (by decide +kernel)
set_option maxRecDepth 20000 in
theorem gL_isLowered_X2_height : GoodIn wsL_isLowered (wsV RL 46 RX2 yX2_height wsX2_height) := goodIn_app (goodIn_of _ (by decide +kernel)) ggL_isLowered_X2_height
theorem dL_isLowered_0 : decode cL_isLowered 0 = .ok (.aload_n 0, 1) := by decide +kernel
theorem dL_isLowered_1 : decode cL_isLowered 1 = .ok (.iload_n 1, 1) := by decide +kernel
theorem dL_isLowered_2 : decode cL_isLowered 2 = .ok (.iload_n 2, 1) := by decide +kernel
theorem dL_isLowered_3 : decode cL_isLowered 3 = .ok (.iload_n 3, 1) := by decide +kernel
theorem dL_isLowered_4 : decode cL_isLowered 4 = .ok (.invokevirtual 69, 3) := by decide +kernel
theorem dL_isLowered_7 : decode cL_isLowered 7 = .ok (.istore 4, 2) := by decide +kernel
theorem dL_isLowered_9 : decode cL_isLowered 9 = .ok (.aload_n 0, 1) := by decide +kernel
theorem dL_isLowered_10 : decode cL_isLowered 10 = .ok (.invokevirtual 32, 3) := by decide +kernel
theorem dL_isLowered_13 : decode cL_isLowered 13 = .ok (.istore 5, 2) := by decide +kernel
theorem dL_isLowered_15 : decode cL_isLowered 15 = .ok (.aload_n 0, 1) := by decide +kernel
theorem dL_isLowered_16 : decode cL_isLowered 16 = .ok (.invokevirtual 26, 3) := by decide +kernel
theorem dL_isLowered_19 : decode cL_isLowered 19 = .ok (.istore 6, 2) := by decide +kernel
theorem dL_isLowered_21 : decode cL_isLowered 21 = .ok (.aload_n 0, 1) := by decide +kernel
theorem dL_isLowered_22 : decode cL_isLowered 22 = .ok (.iload_n 1, 1) := by decide +kernel
theorem dL_isLowered_23 : decode cL_isLowered 23 = .ok (.iload_n 2, 1) := by decide +kernel
theorem dL_isLowered_24 : decode cL_isLowered 24 = .ok (.iload_n 3, 1) := by decide +kernel
theorem dL_isLowered_25 : decode cL_isLowered 25 = .ok (.invokevirtual 72, 3) := by decide +kernel
theorem dL_isLowered_28 : decode cL_isLowered 28 = .ok (.iload 4, 2) := by decide +kernel
theorem dL_isLowered_30 : decode cL_isLowered 30 = .ok (.if_icmp .ne 29, 3) := by decide +kernel
theorem dL_isLowered_33 : decode cL_isLowered 33 = .ok (.aload_n 0, 1) := by decide +kernel
theorem dL_isLowered_34 : decode cL_isLowered 34 = .ok (.iload_n 1, 1) := by decide +kernel
theorem dL_isLowered_35 : decode cL_isLowered 35 = .ok (.iload_n 2, 1) := by decide +kernel
theorem dL_isLowered_36 : decode cL_isLowered 36 = .ok (.iload_n 3, 1) := by decide +kernel
theorem dL_isLowered_37 : decode cL_isLowered 37 = .ok (.invokevirtual 69, 3) := by decide +kernel
theorem dL_isLowered_40 : decode cL_isLowered 40 = .ok (.ifCond .ne 19, 3) := by decide +kernel
theorem dL_isLowered_43 : decode cL_isLowered 43 = .ok (.aload_n 0, 1) := by decide +kernel
theorem dL_isLowered_44 : decode cL_isLowered 44 = .ok (.invokevirtual 32, 3) := by decide +kernel
theorem dL_isLowered_47 : decode cL_isLowered 47 = .ok (.iload 5, 2) := by decide +kernel
theorem dL_isLowered_49 : decode cL_isLowered 49 = .ok (.iload 4, 2) := by decide +kernel
theorem dL_isLowered_51 : decode cL_isLowered 51 = .ok (.iadd, 1) := by decide +kernel
theorem dL_isLowered_52 : decode cL_isLowered 52 = .ok (.if_icmp .ne 7, 3) := by decide +kernel
theorem dL_isLowered_55 : decode cL_isLowered 55 = .ok (.iconst 1, 1) := by decide +kernel
theorem dL_isLowered_56 : decode cL_isLowered 56 = .ok (.goto 4, 3) := by decide +kernel
theorem dL_isLowered_59 : decode cL_isLowered 59 = .ok (.iconst 0, 1) := by decide +kernel
theorem dL_isLowered_60 : decode cL_isLowered 60 = .ok (.istore 7, 2) := by decide +kernel
theorem dL_isLowered_62 : decode cL_isLowered 62 = .ok (.iload 7, 2) := by decide +kernel
theorem dL_isLowered_64 : decode cL_isLowered 64 = .ok (.ifCond .eq 42, 3) := by decide +kernel
theorem dL_isLowered_67 : decode cL_isLowered 67 = .ok (.aload_n 0, 1) := by decide +kernel
theorem dL_isLowered_68 : decode cL_isLowered 68 = .ok (.invokevirtual 23, 3) := by decide +kernel
theorem dL_isLowered_71 : decode cL_isLowered 71 = .ok (.iconst 1, 1) := by decide +kernel
theorem dL_isLowered_72 : decode cL_isLowered 72 = .ok (.if_icmp .lt 34, 3) := by decide +kernel
theorem dL_isLowered_75 : decode cL_isLowered 75 = .ok (.aload_n 0, 1) := by decide +kernel
theorem dL_isLowered_76 : decode cL_isLowered 76 = .ok (.invokevirtual 23, 3) := by decide +kernel
theorem dL_isLowered_79 : decode cL_isLowered 79 = .ok (.iconst 2, 1) := by decide +kernel
theorem dL_isLowered_80 : decode cL_isLowered 80 = .ok (.aload_n 0, 1) := by decide +kernel
theorem dL_isLowered_81 : decode cL_isLowered 81 = .ok (.invokevirtual 8, 3) := by decide +kernel
theorem dL_isLowered_84 : decode cL_isLowered 84 = .ok (.imul, 1) := by decide +kernel
theorem dL_isLowered_85 : decode cL_isLowered 85 = .ok (.if_icmp .gt 21, 3) := by decide +kernel
theorem dL_isLowered_88 : decode cL_isLowered 88 = .ok (.aload_n 0, 1) := by decide +kernel
theorem dL_isLowered_89 : decode cL_isLowered 89 = .ok (.invokevirtual 26, 3) := by decide +kernel
theorem dL_isLowered_92 : decode cL_isLowered 92 = .ok (.iload 6, 2) := by decide +kernel
theorem dL_isLowered_94 : decode cL_isLowered 94 = .ok (.aload_n 0, 1) := by decide +kernel
theorem dL_isLowered_95 : decode cL_isLowered 95 = .ok (.invokevirtual 23, 3) := by decide +kernel
theorem dL_isLowered_98 : decode cL_isLowered 98 = .ok (.iadd, 1) := by decide +kernel
theorem dL_isLowered_99 : decode cL_isLowered 99 = .ok (.if_icmp .ne 7, 3) := by decide +kernel
theorem dL_isLowered_102 : decode cL_isLowered 102 = .ok (.iconst 1, 1) := by decide +kernel
theorem dL_isLowered_103 : decode cL_isLowered 103 = .ok (.goto 4, 3) := by decide +kernel
theorem dL_isLowered_106 : decode cL_isLowered 106 = .ok (.iconst 0, 1) := by decide +kernel
theorem dL_isLowered_107 : decode cL_isLowered 107 = .ok (.istore 7, 2) := by decide +kernel
theorem dL_isLowered_109 : decode cL_isLowered 109 = .ok (.iload 7, 2) := by decide +kernel
theorem dL_isLowered_111 : decode cL_isLowered 111 = .ok (.ifCond .eq 29, 3) := by decide +kernel
theorem dL_isLowered_114 : decode cL_isLowered 114 = .ok (.aload_n 0, 1) := by decide +kernel
theorem dL_isLowered_115 : decode cL_isLowered 115 = .ok (.iload_n 1, 1) := by decide +kernel
theorem dL_isLowered_116 : decode cL_isLowered 116 = .ok (.invokevirtual 75, 3) := by decide +kernel
theorem dL_isLowered_119 : decode cL_isLowered 119 = .ok (.iload_n 3, 1) := by decide +kernel
theorem dL_isLowered_120 : decode cL_isLowered 120 = .ok (.if_icmp .gt 20, 3) := by decide +kernel
theorem dL_isLowered_123 : decode cL_isLowered 123 = .ok (.aload_n 0, 1) := by decide +kernel
theorem dL_isLowered_124 : decode cL_isLowered 124 = .ok (.iload_n 2, 1) := by decide +kernel
theorem dL_isLowered_125 : decode cL_isLowered 125 = .ok (.invokevirtual 46, 3) := by decide +kernel
theorem dL_isLowered_128 : decode cL_isLowered 128 = .ok (.aload_n 0, 1) := by decide +kernel
theorem dL_isLowered_129 : decode cL_isLowered 129 = .ok (.iload_n 2, 1) := by decide +kernel
theorem dL_isLowered_130 : decode cL_isLowered 130 = .ok (.invokevirtual 75, 3) := by decide +kernel
theorem dL_isLowered_133 : decode cL_isLowered 133 = .ok (.if_icmp .gt 7, 3) := by decide +kernel
theorem dL_isLowered_136 : decode cL_isLowered 136 = .ok (.iconst 1, 1) := by decide +kernel
theorem dL_isLowered_137 : decode cL_isLowered 137 = .ok (.goto 4, 3) := by decide +kernel
theorem dL_isLowered_140 : decode cL_isLowered 140 = .ok (.iconst 0, 1) := by decide +kernel
theorem dL_isLowered_141 : decode cL_isLowered 141 = .ok (.ireturn, 1) := by decide +kernel
set_option maxRecDepth 20000 in
theorem ggL_isEntrySo_X2_greatest : GoodIn wsL_isEntrySo wsX2_greatest := goodIn_r _ [5, 6, 7, 8, 9, 4, 10, 11, 12, 13, 14, 15, 16, 17, 18, 82, 83, 84, 85, 86, 87, 88, 89, 90, 91, 92, 93] (by decide +kernel) (by decide +kernel)
set_option maxRecDepth 20000 in
theorem gL_isEntrySo_X2_greatest : GoodIn wsL_isEntrySo (wsV RL 78 RX2 yX2_greatest wsX2_greatest) := goodIn_app (goodIn_of _ (by decide +kernel)) ggL_isEntrySo_X2_greatest
set_option maxRecDepth 20000 in
theorem ggL_isEntrySo_X2_spanOf : GoodIn wsL_isEntrySo wsX2_spanOf := goodIn_r _ [22, 6, 7, 8, 9, 4, 10, 11, 12, 13, 14, 15, 16, 17, 18, 82, 83, 84, 85, 86, 87, 88, 89, 90, 91, 92, 93] (by decide +kernel) (by decide +kernel)
set_option maxRecDepth 20000 in
theorem gL_isEntrySo_X2_spanOf : GoodIn wsL_isEntrySo (wsV RL 81 RX2 yX2_spanOf wsX2_spanOf) := goodIn_app (goodIn_of _ (by decide +kernel)) ggL_isEntrySo_X2_spanOf
set_option maxRecDepth 20000 in
theorem ggL_isEntrySo_X2_heightOfColumn : GoodIn wsL_isEntrySo wsX2_heightOfColumn := goodIn_r _ [26, 27, 28, 29, 30, 4, 31, 11, 12, 82, 83, 84, 94, 95, 96, 97] (by decide +kernel) (by decide +kernel)
set_option maxRecDepth 20000 in
theorem gL_isEntrySo_X2_heightOfColumn : GoodIn wsL_isEntrySo (wsV RL 50 RX2 yX2_heightOfColumn wsX2_heightOfColumn) := goodIn_app (goodIn_of _ (by decide +kernel)) ggL_isEntrySo_X2_heightOfColumn
set_option maxRecDepth 20000 in
theorem ggL_isEntrySo_X2_earthByColumns : GoodIn wsL_isEntrySo wsX2_earthByColumns := goodIn_r _ [35, 27, 36, 37, 38, 4, 39, 40, 41, 28, 29, 30, 31, 11, 12, 42, 43, 44, 45, 46, 47, 48, 49, 50, 51, 82, 83, 84, 94, 95, 96, 97] (by decide +kernel) (by decide +kernel)
set_option maxRecDepth 20000 in
theorem gL_isEntrySo_X2_earthByColumns : GoodIn wsL_isEntrySo (wsV RL 56 RX2 yX2_earthByColumns wsX2_earthByColumns) := goodIn_app (goodIn_of _ (by decide +kernel)) ggL_isEntrySo_X2_earthByColumns
set_option maxRecDepth 20000 in
theorem ggL_isEntrySo_X2_noted : GoodIn wsL_isEntrySo wsX2_noted := goodIn_r _ [55, 6, 7, 8, 9, 4, 10, 11, 12, 13, 14, 15, 16, 17, 18, 82, 83, 84, 85, 86, 87, 88, 89, 90, 91, 92, 93] (by decide +kernel) (by decide +kernel)
set_option maxRecDepth 20000 in
theorem gL_isEntrySo_X2_noted : GoodIn wsL_isEntrySo (wsV RL 84 RX2 yX2_noted wsX2_noted) := goodIn_app (goodIn_of _ (by decide +kernel)) ggL_isEntrySo_X2_noted
set_option maxRecDepth 20000 in
theorem ggL_isEntrySo_X2_second : GoodIn wsL_isEntrySo wsX2_second := goodIn_r _ [59, 6, 7, 8, 9, 4, 10, 11, 12, 13, 14, 15, 16, 17, 18, 82, 83, 84, 85, 86, 87, 88, 89, 90, 91, 92, 93] (by decide +kernel) (by decide +kernel)
set_option maxRecDepth 20000 in
theorem gL_isEntrySo_X2_second : GoodIn wsL_isEntrySo (wsV RL 87 RX2 yX2_second wsX2_second) := goodIn_app (goodIn_of _ (by decide +kernel)) ggL_isEntrySo_X2_second
set_option maxRecDepth 20000 in
theorem ggL_isEntrySo_X2_many : GoodIn wsL_isEntrySo wsX2_many := goodIn_r _ [63, 6, 7, 8, 9, 4, 10, 11, 12, 13, 14, 15, 16, 17, 18, 82, 83, 84, 85, 86, 87, 88, 89, 90, 91, 92, 93] (by decide +kernel) (by decide +kernel)
set_option maxRecDepth 20000 in
theorem gL_isEntrySo_X2_many : GoodIn wsL_isEntrySo (wsV RL 90 RX2 yX2_many wsX2_many) := goodIn_app (goodIn_of _ (by decide +kernel)) ggL_isEntrySo_X2_many
set_option maxRecDepth 20000 in
theorem ggL_isEntrySo_X2_height : GoodIn wsL_isEntrySo wsX2_height := goodIn_r _ [67, 6, 28, 29, 30, 4, 31, 11, 12, 27, 68, 69, 70, 16, 71, 72, 73, 74, 50, 75, 76, 14, 15, 17, 18, 77, 78, 79, 80, 81, 82, 83, 84, 94, 95, 96, 97, 85, 86, 87, 88, 89, 90, 91, 92, 93] (by decide +kernel) (by decide +kernel)
set_option maxRecDepth 20000 in
theorem gL_isEntrySo_X2_height : GoodIn wsL_isEntrySo (wsV RL 46 RX2 yX2_height wsX2_height) := goodIn_app (goodIn_of _ (by decide +kernel)) ggL_isEntrySo_X2_height
theorem dL_isEntrySo_0 : decode cL_isEntrySo 0 = .ok (.iconst 1, 1) := by decide +kernel
theorem dL_isEntrySo_1 : decode cL_isEntrySo 1 = .ok (.istore_n 2, 1) := by decide +kernel
theorem dL_isEntrySo_2 : decode cL_isEntrySo 2 = .ok (.iconst 1, 1) := by decide +kernel
theorem dL_isEntrySo_3 : decode cL_isEntrySo 3 = .ok (.istore_n 3, 1) := by decide +kernel
theorem dL_isEntrySo_4 : decode cL_isEntrySo 4 = .ok (.iconst 1, 1) := by decide +kernel
theorem dL_isEntrySo_5 : decode cL_isEntrySo 5 = .ok (.istore 4, 2) := by decide +kernel
theorem dL_isEntrySo_7 : decode cL_isEntrySo 7 = .ok (.aload_n 0, 1) := by decide +kernel
theorem dL_isEntrySo_8 : decode cL_isEntrySo 8 = .ok (.iconst 1, 1) := by decide +kernel
theorem dL_isEntrySo_9 : decode cL_isEntrySo 9 = .ok (.invokevirtual 78, 3) := by decide +kernel
theorem dL_isEntrySo_12 : decode cL_isEntrySo 12 = .ok (.istore 5, 2) := by decide +kernel
theorem dL_isEntrySo_14 : decode cL_isEntrySo 14 = .ok (.iconst 1, 1) := by decide +kernel
theorem dL_isEntrySo_15 : decode cL_isEntrySo 15 = .ok (.istore 6, 2) := by decide +kernel
theorem dL_isEntrySo_17 : decode cL_isEntrySo 17 = .ok (.iload 6, 2) := by decide +kernel
theorem dL_isEntrySo_19 : decode cL_isEntrySo 19 = .ok (.ifCond .eq 468, 3) := by decide +kernel
theorem dL_isEntrySo_22 : decode cL_isEntrySo 22 = .ok (.iload 4, 2) := by decide +kernel
theorem dL_isEntrySo_24 : decode cL_isEntrySo 24 = .ok (.ifCond .eq 463, 3) := by decide +kernel
theorem dL_isEntrySo_27 : decode cL_isEntrySo 27 = .ok (.aload_n 0, 1) := by decide +kernel
theorem dL_isEntrySo_28 : decode cL_isEntrySo 28 = .ok (.iload_n 2, 1) := by decide +kernel
theorem dL_isEntrySo_29 : decode cL_isEntrySo 29 = .ok (.invokevirtual 81, 3) := by decide +kernel
theorem dL_isEntrySo_32 : decode cL_isEntrySo 32 = .ok (.bipush 100, 2) := by decide +kernel
theorem dL_isEntrySo_34 : decode cL_isEntrySo 34 = .ok (.idiv, 1) := by decide +kernel
theorem dL_isEntrySo_35 : decode cL_isEntrySo 35 = .ok (.istore 7, 2) := by decide +kernel
theorem dL_isEntrySo_37 : decode cL_isEntrySo 37 = .ok (.aload_n 0, 1) := by decide +kernel
theorem dL_isEntrySo_38 : decode cL_isEntrySo 38 = .ok (.iload_n 2, 1) := by decide +kernel
theorem dL_isEntrySo_39 : decode cL_isEntrySo 39 = .ok (.invokevirtual 81, 3) := by decide +kernel
theorem dL_isEntrySo_42 : decode cL_isEntrySo 42 = .ok (.bipush 100, 2) := by decide +kernel
theorem dL_isEntrySo_44 : decode cL_isEntrySo 44 = .ok (.irem, 1) := by decide +kernel
theorem dL_isEntrySo_45 : decode cL_isEntrySo 45 = .ok (.istore 8, 2) := by decide +kernel
theorem dL_isEntrySo_47 : decode cL_isEntrySo 47 = .ok (.iload_n 3, 1) := by decide +kernel
theorem dL_isEntrySo_48 : decode cL_isEntrySo 48 = .ok (.ifCond .eq 27, 3) := by decide +kernel
theorem dL_isEntrySo_51 : decode cL_isEntrySo 51 = .ok (.iload_n 2, 1) := by decide +kernel
theorem dL_isEntrySo_52 : decode cL_isEntrySo 52 = .ok (.iconst 1, 1) := by decide +kernel
theorem dL_isEntrySo_53 : decode cL_isEntrySo 53 = .ok (.if_icmp .eq 18, 3) := by decide +kernel
theorem dL_isEntrySo_56 : decode cL_isEntrySo 56 = .ok (.aload_n 0, 1) := by decide +kernel
theorem dL_isEntrySo_57 : decode cL_isEntrySo 57 = .ok (.iload_n 2, 1) := by decide +kernel
theorem dL_isEntrySo_58 : decode cL_isEntrySo 58 = .ok (.invokevirtual 78, 3) := by decide +kernel
theorem dL_isEntrySo_61 : decode cL_isEntrySo 61 = .ok (.aload_n 0, 1) := by decide +kernel
theorem dL_isEntrySo_62 : decode cL_isEntrySo 62 = .ok (.iload_n 2, 1) := by decide +kernel
theorem dL_isEntrySo_63 : decode cL_isEntrySo 63 = .ok (.iconst 2, 1) := by decide +kernel
theorem dL_isEntrySo_64 : decode cL_isEntrySo 64 = .ok (.idiv, 1) := by decide +kernel
theorem dL_isEntrySo_65 : decode cL_isEntrySo 65 = .ok (.invokevirtual 78, 3) := by decide +kernel
theorem dL_isEntrySo_68 : decode cL_isEntrySo 68 = .ok (.if_icmp .gt 7, 3) := by decide +kernel
theorem dL_isEntrySo_71 : decode cL_isEntrySo 71 = .ok (.iconst 1, 1) := by decide +kernel
theorem dL_isEntrySo_72 : decode cL_isEntrySo 72 = .ok (.goto 4, 3) := by decide +kernel
theorem dL_isEntrySo_75 : decode cL_isEntrySo 75 = .ok (.iconst 0, 1) := by decide +kernel
theorem dL_isEntrySo_76 : decode cL_isEntrySo 76 = .ok (.istore_n 3, 1) := by decide +kernel
theorem dL_isEntrySo_77 : decode cL_isEntrySo 77 = .ok (.iconst 0, 1) := by decide +kernel
theorem dL_isEntrySo_78 : decode cL_isEntrySo 78 = .ok (.istore 9, 2) := by decide +kernel
theorem dL_isEntrySo_80 : decode cL_isEntrySo 80 = .ok (.iconst (-1), 1) := by decide +kernel
theorem dL_isEntrySo_81 : decode cL_isEntrySo 81 = .ok (.istore 10, 2) := by decide +kernel
theorem dL_isEntrySo_83 : decode cL_isEntrySo 83 = .ok (.iconst 0, 1) := by decide +kernel
theorem dL_isEntrySo_84 : decode cL_isEntrySo 84 = .ok (.istore 11, 2) := by decide +kernel
theorem dL_isEntrySo_86 : decode cL_isEntrySo 86 = .ok (.iload 7, 2) := by decide +kernel
theorem dL_isEntrySo_88 : decode cL_isEntrySo 88 = .ok (.istore 12, 2) := by decide +kernel
theorem dL_isEntrySo_90 : decode cL_isEntrySo 90 = .ok (.iload 12, 2) := by decide +kernel
theorem dL_isEntrySo_92 : decode cL_isEntrySo 92 = .ok (.iload 8, 2) := by decide +kernel
theorem dL_isEntrySo_94 : decode cL_isEntrySo 94 = .ok (.if_icmp .gt 120, 3) := by decide +kernel
theorem dL_isEntrySo_97 : decode cL_isEntrySo 97 = .ok (.aload_n 0, 1) := by decide +kernel
theorem dL_isEntrySo_98 : decode cL_isEntrySo 98 = .ok (.iload 12, 2) := by decide +kernel
theorem dL_isEntrySo_100 : decode cL_isEntrySo 100 = .ok (.invokevirtual 50, 3) := by decide +kernel
theorem dL_isEntrySo_103 : decode cL_isEntrySo 103 = .ok (.istore 13, 2) := by decide +kernel
theorem dL_isEntrySo_105 : decode cL_isEntrySo 105 = .ok (.iload 13, 2) := by decide +kernel
theorem dL_isEntrySo_107 : decode cL_isEntrySo 107 = .ok (.iload 9, 2) := by decide +kernel
theorem dL_isEntrySo_109 : decode cL_isEntrySo 109 = .ok (.if_icmp .le 18, 3) := by decide +kernel
theorem dL_isEntrySo_112 : decode cL_isEntrySo 112 = .ok (.iload 11, 2) := by decide +kernel
theorem dL_isEntrySo_114 : decode cL_isEntrySo 114 = .ok (.ifCond .le 8, 3) := by decide +kernel
theorem dL_isEntrySo_117 : decode cL_isEntrySo 117 = .ok (.iload 9, 2) := by decide +kernel
theorem dL_isEntrySo_119 : decode cL_isEntrySo 119 = .ok (.goto 29, 3) := by decide +kernel
theorem dL_isEntrySo_122 : decode cL_isEntrySo 122 = .ok (.iload 10, 2) := by decide +kernel
theorem dL_isEntrySo_124 : decode cL_isEntrySo 124 = .ok (.goto 24, 3) := by decide +kernel
theorem dL_isEntrySo_127 : decode cL_isEntrySo 127 = .ok (.iload 13, 2) := by decide +kernel
theorem dL_isEntrySo_129 : decode cL_isEntrySo 129 = .ok (.iload 9, 2) := by decide +kernel
theorem dL_isEntrySo_131 : decode cL_isEntrySo 131 = .ok (.if_icmp .ge 15, 3) := by decide +kernel
theorem dL_isEntrySo_134 : decode cL_isEntrySo 134 = .ok (.iload 13, 2) := by decide +kernel
theorem dL_isEntrySo_136 : decode cL_isEntrySo 136 = .ok (.iload 10, 2) := by decide +kernel
theorem dL_isEntrySo_138 : decode cL_isEntrySo 138 = .ok (.if_icmp .le 8, 3) := by decide +kernel
theorem dL_isEntrySo_141 : decode cL_isEntrySo 141 = .ok (.iload 13, 2) := by decide +kernel
theorem dL_isEntrySo_143 : decode cL_isEntrySo 143 = .ok (.goto 5, 3) := by decide +kernel
theorem dL_isEntrySo_146 : decode cL_isEntrySo 146 = .ok (.iload 10, 2) := by decide +kernel
theorem dL_isEntrySo_148 : decode cL_isEntrySo 148 = .ok (.istore 10, 2) := by decide +kernel
theorem dL_isEntrySo_150 : decode cL_isEntrySo 150 = .ok (.iload 13, 2) := by decide +kernel
theorem dL_isEntrySo_152 : decode cL_isEntrySo 152 = .ok (.iload 9, 2) := by decide +kernel
theorem dL_isEntrySo_154 : decode cL_isEntrySo 154 = .ok (.if_icmp .gt 10, 3) := by decide +kernel
theorem dL_isEntrySo_157 : decode cL_isEntrySo 157 = .ok (.iload 12, 2) := by decide +kernel
theorem dL_isEntrySo_159 : decode cL_isEntrySo 159 = .ok (.iload 7, 2) := by decide +kernel
theorem dL_isEntrySo_161 : decode cL_isEntrySo 161 = .ok (.if_icmp .ne 7, 3) := by decide +kernel
theorem dL_isEntrySo_164 : decode cL_isEntrySo 164 = .ok (.iconst 1, 1) := by decide +kernel
theorem dL_isEntrySo_165 : decode cL_isEntrySo 165 = .ok (.goto 18, 3) := by decide +kernel
theorem dL_isEntrySo_168 : decode cL_isEntrySo 168 = .ok (.iload 11, 2) := by decide +kernel
theorem dL_isEntrySo_170 : decode cL_isEntrySo 170 = .ok (.iload 13, 2) := by decide +kernel
theorem dL_isEntrySo_172 : decode cL_isEntrySo 172 = .ok (.iload 9, 2) := by decide +kernel
theorem dL_isEntrySo_174 : decode cL_isEntrySo 174 = .ok (.if_icmp .ne 7, 3) := by decide +kernel
theorem dL_isEntrySo_177 : decode cL_isEntrySo 177 = .ok (.iconst 1, 1) := by decide +kernel
theorem dL_isEntrySo_178 : decode cL_isEntrySo 178 = .ok (.goto 4, 3) := by decide +kernel
theorem dL_isEntrySo_181 : decode cL_isEntrySo 181 = .ok (.iconst 0, 1) := by decide +kernel
theorem dL_isEntrySo_182 : decode cL_isEntrySo 182 = .ok (.iadd, 1) := by decide +kernel
theorem dL_isEntrySo_183 : decode cL_isEntrySo 183 = .ok (.istore 11, 2) := by decide +kernel
theorem dL_isEntrySo_185 : decode cL_isEntrySo 185 = .ok (.iload 13, 2) := by decide +kernel
theorem dL_isEntrySo_187 : decode cL_isEntrySo 187 = .ok (.iload 9, 2) := by decide +kernel
theorem dL_isEntrySo_189 : decode cL_isEntrySo 189 = .ok (.if_icmp .gt 10, 3) := by decide +kernel
theorem dL_isEntrySo_192 : decode cL_isEntrySo 192 = .ok (.iload 12, 2) := by decide +kernel
theorem dL_isEntrySo_194 : decode cL_isEntrySo 194 = .ok (.iload 7, 2) := by decide +kernel
theorem dL_isEntrySo_196 : decode cL_isEntrySo 196 = .ok (.if_icmp .ne 8, 3) := by decide +kernel
theorem dL_isEntrySo_199 : decode cL_isEntrySo 199 = .ok (.iload 13, 2) := by decide +kernel
theorem dL_isEntrySo_201 : decode cL_isEntrySo 201 = .ok (.goto 5, 3) := by decide +kernel
theorem dL_isEntrySo_204 : decode cL_isEntrySo 204 = .ok (.iload 9, 2) := by decide +kernel
theorem dL_isEntrySo_206 : decode cL_isEntrySo 206 = .ok (.istore 9, 2) := by decide +kernel
theorem dL_isEntrySo_208 : decode cL_isEntrySo 208 = .ok (.iinc 12 1, 3) := by decide +kernel
theorem dL_isEntrySo_211 : decode cL_isEntrySo 211 = .ok (.goto (-121), 3) := by decide +kernel
theorem dL_isEntrySo_214 : decode cL_isEntrySo 214 = .ok (.aload_n 0, 1) := by decide +kernel
theorem dL_isEntrySo_215 : decode cL_isEntrySo 215 = .ok (.iload 7, 2) := by decide +kernel
theorem dL_isEntrySo_217 : decode cL_isEntrySo 217 = .ok (.iload 8, 2) := by decide +kernel
theorem dL_isEntrySo_219 : decode cL_isEntrySo 219 = .ok (.invokevirtual 56, 3) := by decide +kernel
theorem dL_isEntrySo_222 : decode cL_isEntrySo 222 = .ok (.istore 12, 2) := by decide +kernel
theorem dL_isEntrySo_224 : decode cL_isEntrySo 224 = .ok (.aload_n 0, 1) := by decide +kernel
theorem dL_isEntrySo_225 : decode cL_isEntrySo 225 = .ok (.iload_n 2, 1) := by decide +kernel
theorem dL_isEntrySo_226 : decode cL_isEntrySo 226 = .ok (.invokevirtual 78, 3) := by decide +kernel
theorem dL_isEntrySo_229 : decode cL_isEntrySo 229 = .ok (.iload 5, 2) := by decide +kernel
theorem dL_isEntrySo_231 : decode cL_isEntrySo 231 = .ok (.if_icmp .ge 11, 3) := by decide +kernel
theorem dL_isEntrySo_234 : decode cL_isEntrySo 234 = .ok (.aload_n 0, 1) := by decide +kernel
theorem dL_isEntrySo_235 : decode cL_isEntrySo 235 = .ok (.iload_n 2, 1) := by decide +kernel
theorem dL_isEntrySo_236 : decode cL_isEntrySo 236 = .ok (.invokevirtual 78, 3) := by decide +kernel
theorem dL_isEntrySo_239 : decode cL_isEntrySo 239 = .ok (.goto 5, 3) := by decide +kernel
theorem dL_isEntrySo_242 : decode cL_isEntrySo 242 = .ok (.iload 5, 2) := by decide +kernel
theorem dL_isEntrySo_244 : decode cL_isEntrySo 244 = .ok (.istore 5, 2) := by decide +kernel
theorem dL_isEntrySo_246 : decode cL_isEntrySo 246 = .ok (.aload_n 0, 1) := by decide +kernel
theorem dL_isEntrySo_247 : decode cL_isEntrySo 247 = .ok (.iload_n 2, 1) := by decide +kernel
theorem dL_isEntrySo_248 : decode cL_isEntrySo 248 = .ok (.invokevirtual 78, 3) := by decide +kernel
theorem dL_isEntrySo_251 : decode cL_isEntrySo 251 = .ok (.iload 9, 2) := by decide +kernel
theorem dL_isEntrySo_253 : decode cL_isEntrySo 253 = .ok (.if_icmp .lt 54, 3) := by decide +kernel
theorem dL_isEntrySo_256 : decode cL_isEntrySo 256 = .ok (.aload_n 0, 1) := by decide +kernel
theorem dL_isEntrySo_257 : decode cL_isEntrySo 257 = .ok (.iload_n 2, 1) := by decide +kernel
theorem dL_isEntrySo_258 : decode cL_isEntrySo 258 = .ok (.invokevirtual 84, 3) := by decide +kernel
theorem dL_isEntrySo_261 : decode cL_isEntrySo 261 = .ok (.iload 12, 2) := by decide +kernel
theorem dL_isEntrySo_263 : decode cL_isEntrySo 263 = .ok (.if_icmp .lt 44, 3) := by decide +kernel
theorem dL_isEntrySo_266 : decode cL_isEntrySo 266 = .ok (.aload_n 0, 1) := by decide +kernel
theorem dL_isEntrySo_267 : decode cL_isEntrySo 267 = .ok (.iload_n 2, 1) := by decide +kernel
theorem dL_isEntrySo_268 : decode cL_isEntrySo 268 = .ok (.invokevirtual 87, 3) := by decide +kernel
theorem dL_isEntrySo_271 : decode cL_isEntrySo 271 = .ok (.aload_n 0, 1) := by decide +kernel
theorem dL_isEntrySo_272 : decode cL_isEntrySo 272 = .ok (.iload_n 2, 1) := by decide +kernel
theorem dL_isEntrySo_273 : decode cL_isEntrySo 273 = .ok (.invokevirtual 78, 3) := by decide +kernel
theorem dL_isEntrySo_276 : decode cL_isEntrySo 276 = .ok (.if_icmp .ge 31, 3) := by decide +kernel
theorem dL_isEntrySo_279 : decode cL_isEntrySo 279 = .ok (.aload_n 0, 1) := by decide +kernel
theorem dL_isEntrySo_280 : decode cL_isEntrySo 280 = .ok (.iload_n 2, 1) := by decide +kernel
theorem dL_isEntrySo_281 : decode cL_isEntrySo 281 = .ok (.invokevirtual 90, 3) := by decide +kernel
theorem dL_isEntrySo_284 : decode cL_isEntrySo 284 = .ok (.iconst 1, 1) := by decide +kernel
theorem dL_isEntrySo_285 : decode cL_isEntrySo 285 = .ok (.if_icmp .lt 22, 3) := by decide +kernel
theorem dL_isEntrySo_288 : decode cL_isEntrySo 288 = .ok (.aload_n 0, 1) := by decide +kernel
theorem dL_isEntrySo_289 : decode cL_isEntrySo 289 = .ok (.iload_n 2, 1) := by decide +kernel
theorem dL_isEntrySo_290 : decode cL_isEntrySo 290 = .ok (.invokevirtual 90, 3) := by decide +kernel
theorem dL_isEntrySo_293 : decode cL_isEntrySo 293 = .ok (.iload 8, 2) := by decide +kernel
theorem dL_isEntrySo_295 : decode cL_isEntrySo 295 = .ok (.iload 7, 2) := by decide +kernel
theorem dL_isEntrySo_297 : decode cL_isEntrySo 297 = .ok (.isub, 1) := by decide +kernel
theorem dL_isEntrySo_298 : decode cL_isEntrySo 298 = .ok (.iconst 1, 1) := by decide +kernel
theorem dL_isEntrySo_299 : decode cL_isEntrySo 299 = .ok (.iadd, 1) := by decide +kernel
theorem dL_isEntrySo_300 : decode cL_isEntrySo 300 = .ok (.if_icmp .gt 7, 3) := by decide +kernel
theorem dL_isEntrySo_303 : decode cL_isEntrySo 303 = .ok (.iconst 1, 1) := by decide +kernel
theorem dL_isEntrySo_304 : decode cL_isEntrySo 304 = .ok (.goto 4, 3) := by decide +kernel
theorem dL_isEntrySo_307 : decode cL_isEntrySo 307 = .ok (.iconst 0, 1) := by decide +kernel
theorem dL_isEntrySo_308 : decode cL_isEntrySo 308 = .ok (.istore 4, 2) := by decide +kernel
theorem dL_isEntrySo_310 : decode cL_isEntrySo 310 = .ok (.iload_n 3, 1) := by decide +kernel
theorem dL_isEntrySo_311 : decode cL_isEntrySo 311 = .ok (.ifCond .eq 55, 3) := by decide +kernel
theorem dL_isEntrySo_314 : decode cL_isEntrySo 314 = .ok (.iload 4, 2) := by decide +kernel
theorem dL_isEntrySo_316 : decode cL_isEntrySo 316 = .ok (.ifCond .eq 47, 3) := by decide +kernel
theorem dL_isEntrySo_319 : decode cL_isEntrySo 319 = .ok (.aload_n 0, 1) := by decide +kernel
theorem dL_isEntrySo_320 : decode cL_isEntrySo 320 = .ok (.iload_n 2, 1) := by decide +kernel
theorem dL_isEntrySo_321 : decode cL_isEntrySo 321 = .ok (.invokevirtual 78, 3) := by decide +kernel
theorem dL_isEntrySo_324 : decode cL_isEntrySo 324 = .ok (.iload 9, 2) := by decide +kernel
theorem dL_isEntrySo_326 : decode cL_isEntrySo 326 = .ok (.if_icmp .ne 37, 3) := by decide +kernel
theorem dL_isEntrySo_329 : decode cL_isEntrySo 329 = .ok (.aload_n 0, 1) := by decide +kernel
theorem dL_isEntrySo_330 : decode cL_isEntrySo 330 = .ok (.iload_n 2, 1) := by decide +kernel
theorem dL_isEntrySo_331 : decode cL_isEntrySo 331 = .ok (.invokevirtual 84, 3) := by decide +kernel
theorem dL_isEntrySo_334 : decode cL_isEntrySo 334 = .ok (.iload 12, 2) := by decide +kernel
theorem dL_isEntrySo_336 : decode cL_isEntrySo 336 = .ok (.if_icmp .ne 27, 3) := by decide +kernel
theorem dL_isEntrySo_339 : decode cL_isEntrySo 339 = .ok (.aload_n 0, 1) := by decide +kernel
theorem dL_isEntrySo_340 : decode cL_isEntrySo 340 = .ok (.iload_n 2, 1) := by decide +kernel
theorem dL_isEntrySo_341 : decode cL_isEntrySo 341 = .ok (.invokevirtual 90, 3) := by decide +kernel
theorem dL_isEntrySo_344 : decode cL_isEntrySo 344 = .ok (.iload 11, 2) := by decide +kernel
theorem dL_isEntrySo_346 : decode cL_isEntrySo 346 = .ok (.if_icmp .ne 17, 3) := by decide +kernel
theorem dL_isEntrySo_349 : decode cL_isEntrySo 349 = .ok (.aload_n 0, 1) := by decide +kernel
theorem dL_isEntrySo_350 : decode cL_isEntrySo 350 = .ok (.iload_n 2, 1) := by decide +kernel
theorem dL_isEntrySo_351 : decode cL_isEntrySo 351 = .ok (.invokevirtual 87, 3) := by decide +kernel
theorem dL_isEntrySo_354 : decode cL_isEntrySo 354 = .ok (.iload 10, 2) := by decide +kernel
theorem dL_isEntrySo_356 : decode cL_isEntrySo 356 = .ok (.if_icmp .ne 7, 3) := by decide +kernel
theorem dL_isEntrySo_359 : decode cL_isEntrySo 359 = .ok (.iconst 1, 1) := by decide +kernel
theorem dL_isEntrySo_360 : decode cL_isEntrySo 360 = .ok (.goto 4, 3) := by decide +kernel
theorem dL_isEntrySo_363 : decode cL_isEntrySo 363 = .ok (.iconst 0, 1) := by decide +kernel
theorem dL_isEntrySo_364 : decode cL_isEntrySo 364 = .ok (.istore 4, 2) := by decide +kernel
theorem dL_isEntrySo_366 : decode cL_isEntrySo 366 = .ok (.iload 7, 2) := by decide +kernel
theorem dL_isEntrySo_368 : decode cL_isEntrySo 368 = .ok (.iload 8, 2) := by decide +kernel
theorem dL_isEntrySo_370 : decode cL_isEntrySo 370 = .ok (.if_icmp .ge 13, 3) := by decide +kernel
theorem dL_isEntrySo_373 : decode cL_isEntrySo 373 = .ok (.iload_n 2, 1) := by decide +kernel
theorem dL_isEntrySo_374 : decode cL_isEntrySo 374 = .ok (.bipush 64, 2) := by decide +kernel
theorem dL_isEntrySo_376 : decode cL_isEntrySo 376 = .ok (.if_icmp .ge 7, 3) := by decide +kernel
theorem dL_isEntrySo_379 : decode cL_isEntrySo 379 = .ok (.iconst 1, 1) := by decide +kernel
theorem dL_isEntrySo_380 : decode cL_isEntrySo 380 = .ok (.goto 4, 3) := by decide +kernel
theorem dL_isEntrySo_383 : decode cL_isEntrySo 383 = .ok (.iconst 0, 1) := by decide +kernel
theorem dL_isEntrySo_384 : decode cL_isEntrySo 384 = .ok (.istore 6, 2) := by decide +kernel
theorem dL_isEntrySo_386 : decode cL_isEntrySo 386 = .ok (.iload 6, 2) := by decide +kernel
theorem dL_isEntrySo_388 : decode cL_isEntrySo 388 = .ok (.ifCond .eq 96, 3) := by decide +kernel
theorem dL_isEntrySo_391 : decode cL_isEntrySo 391 = .ok (.aload_n 0, 1) := by decide +kernel
theorem dL_isEntrySo_392 : decode cL_isEntrySo 392 = .ok (.iconst 2, 1) := by decide +kernel
theorem dL_isEntrySo_393 : decode cL_isEntrySo 393 = .ok (.iload_n 2, 1) := by decide +kernel
theorem dL_isEntrySo_394 : decode cL_isEntrySo 394 = .ok (.imul, 1) := by decide +kernel
theorem dL_isEntrySo_395 : decode cL_isEntrySo 395 = .ok (.invokevirtual 81, 3) := by decide +kernel
theorem dL_isEntrySo_398 : decode cL_isEntrySo 398 = .ok (.bipush 100, 2) := by decide +kernel
theorem dL_isEntrySo_400 : decode cL_isEntrySo 400 = .ok (.irem, 1) := by decide +kernel
theorem dL_isEntrySo_401 : decode cL_isEntrySo 401 = .ok (.istore 13, 2) := by decide +kernel
theorem dL_isEntrySo_403 : decode cL_isEntrySo 403 = .ok (.iload 4, 2) := by decide +kernel
theorem dL_isEntrySo_405 : decode cL_isEntrySo 405 = .ok (.ifCond .eq 58, 3) := by decide +kernel
theorem dL_isEntrySo_408 : decode cL_isEntrySo 408 = .ok (.iload 13, 2) := by decide +kernel
theorem dL_isEntrySo_410 : decode cL_isEntrySo 410 = .ok (.iload 7, 2) := by decide +kernel
theorem dL_isEntrySo_412 : decode cL_isEntrySo 412 = .ok (.if_icmp .lt 51, 3) := by decide +kernel
theorem dL_isEntrySo_415 : decode cL_isEntrySo 415 = .ok (.iload 13, 2) := by decide +kernel
theorem dL_isEntrySo_417 : decode cL_isEntrySo 417 = .ok (.iload 8, 2) := by decide +kernel
theorem dL_isEntrySo_419 : decode cL_isEntrySo 419 = .ok (.if_icmp .ge 44, 3) := by decide +kernel
theorem dL_isEntrySo_422 : decode cL_isEntrySo 422 = .ok (.aload_n 0, 1) := by decide +kernel
theorem dL_isEntrySo_423 : decode cL_isEntrySo 423 = .ok (.iconst 2, 1) := by decide +kernel
theorem dL_isEntrySo_424 : decode cL_isEntrySo 424 = .ok (.iload_n 2, 1) := by decide +kernel
theorem dL_isEntrySo_425 : decode cL_isEntrySo 425 = .ok (.imul, 1) := by decide +kernel
theorem dL_isEntrySo_426 : decode cL_isEntrySo 426 = .ok (.invokevirtual 81, 3) := by decide +kernel
theorem dL_isEntrySo_429 : decode cL_isEntrySo 429 = .ok (.bipush 100, 2) := by decide +kernel
theorem dL_isEntrySo_431 : decode cL_isEntrySo 431 = .ok (.idiv, 1) := by decide +kernel
theorem dL_isEntrySo_432 : decode cL_isEntrySo 432 = .ok (.iload 7, 2) := by decide +kernel
theorem dL_isEntrySo_434 : decode cL_isEntrySo 434 = .ok (.if_icmp .ne 29, 3) := by decide +kernel
theorem dL_isEntrySo_437 : decode cL_isEntrySo 437 = .ok (.aload_n 0, 1) := by decide +kernel
theorem dL_isEntrySo_438 : decode cL_isEntrySo 438 = .ok (.iconst 2, 1) := by decide +kernel
theorem dL_isEntrySo_439 : decode cL_isEntrySo 439 = .ok (.iload_n 2, 1) := by decide +kernel
theorem dL_isEntrySo_440 : decode cL_isEntrySo 440 = .ok (.imul, 1) := by decide +kernel
theorem dL_isEntrySo_441 : decode cL_isEntrySo 441 = .ok (.iconst 1, 1) := by decide +kernel
theorem dL_isEntrySo_442 : decode cL_isEntrySo 442 = .ok (.iadd, 1) := by decide +kernel
theorem dL_isEntrySo_443 : decode cL_isEntrySo 443 = .ok (.invokevirtual 81, 3) := by decide +kernel
theorem dL_isEntrySo_446 : decode cL_isEntrySo 446 = .ok (.bipush 100, 2) := by decide +kernel
theorem dL_isEntrySo_448 : decode cL_isEntrySo 448 = .ok (.iload 13, 2) := by decide +kernel
theorem dL_isEntrySo_450 : decode cL_isEntrySo 450 = .ok (.iconst 1, 1) := by decide +kernel
theorem dL_isEntrySo_451 : decode cL_isEntrySo 451 = .ok (.iadd, 1) := by decide +kernel
theorem dL_isEntrySo_452 : decode cL_isEntrySo 452 = .ok (.imul, 1) := by decide +kernel
theorem dL_isEntrySo_453 : decode cL_isEntrySo 453 = .ok (.iload 8, 2) := by decide +kernel
theorem dL_isEntrySo_455 : decode cL_isEntrySo 455 = .ok (.iadd, 1) := by decide +kernel
theorem dL_isEntrySo_456 : decode cL_isEntrySo 456 = .ok (.if_icmp .ne 7, 3) := by decide +kernel
theorem dL_isEntrySo_459 : decode cL_isEntrySo 459 = .ok (.iconst 1, 1) := by decide +kernel
theorem dL_isEntrySo_460 : decode cL_isEntrySo 460 = .ok (.goto 4, 3) := by decide +kernel
theorem dL_isEntrySo_463 : decode cL_isEntrySo 463 = .ok (.iconst 0, 1) := by decide +kernel
theorem dL_isEntrySo_464 : decode cL_isEntrySo 464 = .ok (.istore 4, 2) := by decide +kernel
theorem dL_isEntrySo_466 : decode cL_isEntrySo 466 = .ok (.iload_n 1, 1) := by decide +kernel
theorem dL_isEntrySo_467 : decode cL_isEntrySo 467 = .ok (.iload 13, 2) := by decide +kernel
theorem dL_isEntrySo_469 : decode cL_isEntrySo 469 = .ok (.if_icmp .gt 9, 3) := by decide +kernel
theorem dL_isEntrySo_472 : decode cL_isEntrySo 472 = .ok (.iconst 2, 1) := by decide +kernel
theorem dL_isEntrySo_473 : decode cL_isEntrySo 473 = .ok (.iload_n 2, 1) := by decide +kernel
theorem dL_isEntrySo_474 : decode cL_isEntrySo 474 = .ok (.imul, 1) := by decide +kernel
theorem dL_isEntrySo_475 : decode cL_isEntrySo 475 = .ok (.goto 8, 3) := by decide +kernel
theorem dL_isEntrySo_478 : decode cL_isEntrySo 478 = .ok (.iconst 2, 1) := by decide +kernel
theorem dL_isEntrySo_479 : decode cL_isEntrySo 479 = .ok (.iload_n 2, 1) := by decide +kernel
theorem dL_isEntrySo_480 : decode cL_isEntrySo 480 = .ok (.imul, 1) := by decide +kernel
theorem dL_isEntrySo_481 : decode cL_isEntrySo 481 = .ok (.iconst 1, 1) := by decide +kernel
theorem dL_isEntrySo_482 : decode cL_isEntrySo 482 = .ok (.iadd, 1) := by decide +kernel
theorem dL_isEntrySo_483 : decode cL_isEntrySo 483 = .ok (.istore_n 2, 1) := by decide +kernel
theorem dL_isEntrySo_484 : decode cL_isEntrySo 484 = .ok (.goto (-467), 3) := by decide +kernel
theorem dL_isEntrySo_487 : decode cL_isEntrySo 487 = .ok (.iload 4, 2) := by decide +kernel
theorem dL_isEntrySo_489 : decode cL_isEntrySo 489 = .ok (.ifCond .eq 27, 3) := by decide +kernel
theorem dL_isEntrySo_492 : decode cL_isEntrySo 492 = .ok (.aload_n 0, 1) := by decide +kernel
theorem dL_isEntrySo_493 : decode cL_isEntrySo 493 = .ok (.iload_n 1, 1) := by decide +kernel
theorem dL_isEntrySo_494 : decode cL_isEntrySo 494 = .ok (.invokevirtual 46, 3) := by decide +kernel
theorem dL_isEntrySo_497 : decode cL_isEntrySo 497 = .ok (.iload 5, 2) := by decide +kernel
theorem dL_isEntrySo_499 : decode cL_isEntrySo 499 = .ok (.if_icmp .ne 17, 3) := by decide +kernel
theorem dL_isEntrySo_502 : decode cL_isEntrySo 502 = .ok (.aload_n 0, 1) := by decide +kernel
theorem dL_isEntrySo_503 : decode cL_isEntrySo 503 = .ok (.iload_n 1, 1) := by decide +kernel
theorem dL_isEntrySo_504 : decode cL_isEntrySo 504 = .ok (.invokevirtual 50, 3) := by decide +kernel
theorem dL_isEntrySo_507 : decode cL_isEntrySo 507 = .ok (.iload 5, 2) := by decide +kernel
theorem dL_isEntrySo_509 : decode cL_isEntrySo 509 = .ok (.if_icmp .ne 7, 3) := by decide +kernel
theorem dL_isEntrySo_512 : decode cL_isEntrySo 512 = .ok (.iconst 1, 1) := by decide +kernel
theorem dL_isEntrySo_513 : decode cL_isEntrySo 513 = .ok (.goto 4, 3) := by decide +kernel
theorem dL_isEntrySo_516 : decode cL_isEntrySo 516 = .ok (.iconst 0, 1) := by decide +kernel
theorem dL_isEntrySo_517 : decode cL_isEntrySo 517 = .ok (.ireturn, 1) := by decide +kernel
set_option maxRecDepth 20000 in
theorem ggL_isSo_X2_columns : GoodIn wsL_isSo wsX2_columns := goodIn_r _ [5, 6, 87, 88, 89, 90, 91, 92, 93] (by decide +kernel) (by decide +kernel)
set_option maxRecDepth 20000 in
theorem gL_isSo_X2_columns : GoodIn wsL_isSo (wsV RL 8 RX2 yX2_columns wsX2_columns) := goodIn_app (goodIn_of _ (by decide +kernel)) ggL_isSo_X2_columns
set_option maxRecDepth 20000 in
theorem ggL_isSo_X2_heightOfColumn : GoodIn wsL_isSo wsX2_heightOfColumn := goodIn_r _ [10, 6, 11, 12, 13, 4, 14, 15, 16, 87, 88, 89, 90, 91, 92, 93] (by decide +kernel) (by decide +kernel)
set_option maxRecDepth 20000 in
theorem gL_isSo_X2_heightOfColumn : GoodIn wsL_isSo (wsV RL 50 RX2 yX2_heightOfColumn wsX2_heightOfColumn) := goodIn_app (goodIn_of _ (by decide +kernel)) ggL_isSo_X2_heightOfColumn
set_option maxRecDepth 20000 in
theorem ggL_isSo_X2_noted : GoodIn wsL_isSo wsX2_noted := goodIn_r _ [20, 21, 22, 23, 24, 4, 25, 15, 16, 26, 27, 28, 29, 30, 31, 87, 88, 89, 94, 95, 96, 97, 98, 99, 100, 101, 102] (by decide +kernel) (by decide +kernel)
set_option maxRecDepth 20000 in
theorem gL_isSo_X2_noted : GoodIn wsL_isSo (wsV RL 84 RX2 yX2_noted wsX2_noted) := goodIn_app (goodIn_of _ (by decide +kernel)) ggL_isSo_X2_noted
set_option maxRecDepth 20000 in
theorem ggL_isSo_X2_earthByColumns : GoodIn wsL_isSo wsX2_earthByColumns := goodIn_r _ [35, 6, 36, 37, 38, 4, 39, 40, 41, 11, 12, 13, 14, 15, 16, 42, 43, 44, 45, 46, 47, 48, 49, 50, 51, 87, 88, 89, 90, 91, 92, 93] (by decide +kernel) (by decide +kernel)
set_option maxRecDepth 20000 in
theorem gL_isSo_X2_earthByColumns : GoodIn wsL_isSo (wsV RL 56 RX2 yX2_earthByColumns wsX2_earthByColumns) := goodIn_app (goodIn_of _ (by decide +kernel)) ggL_isSo_X2_earthByColumns
set_option maxRecDepth 20000 in
theorem ggL_isSo_X2_greatest : GoodIn wsL_isSo wsX2_greatest := goodIn_r _ [55, 21, 22, 23, 24, 4, 25, 15, 16, 26, 27, 28, 29, 30, 31, 87, 88, 89, 94, 95, 96, 97, 98, 99, 100, 101, 102] (by decide +kernel) (by decide +kernel)
set_option maxRecDepth 20000 in
theorem gL_isSo_X2_greatest : GoodIn wsL_isSo (wsV RL 78 RX2 yX2_greatest wsX2_greatest) := goodIn_app (goodIn_of _ (by decide +kernel)) ggL_isSo_X2_greatest
set_option maxRecDepth 20000 in
theorem ggL_isSo_X2_pressedAway : GoodIn wsL_isSo wsX2_pressedAway := goodIn_r _ [59, 60, 87, 88, 89] (by decide +kernel) (by decide +kernel)
set_option maxRecDepth 20000 in
theorem gL_isSo_X2_pressedAway : GoodIn wsL_isSo (wsV RL 32 RX2 yX2_pressedAway wsX2_pressedAway) := goodIn_app (goodIn_of _ (by decide +kernel)) ggL_isSo_X2_pressedAway
set_option maxRecDepth 20000 in
theorem ggL_isSo_X2_pressedAwayByRest : GoodIn wsL_isSo wsX2_pressedAwayByRest := goodIn_r _ [64, 6, 42, 43, 44, 45, 46, 47, 48, 49, 50, 51, 87, 88, 89, 90, 91, 92, 93] (by decide +kernel) (by decide +kernel)
set_option maxRecDepth 20000 in
theorem gL_isSo_X2_pressedAwayByRest : GoodIn wsL_isSo (wsV RL 93 RX2 yX2_pressedAwayByRest wsX2_pressedAwayByRest) := goodIn_app (goodIn_of _ (by decide +kernel)) ggL_isSo_X2_pressedAwayByRest
set_option maxRecDepth 20000 in
theorem ggL_isSo_X2_lagging : GoodIn wsL_isSo wsX2_lagging := goodIn_r _ [68, 21, 69, 70, 71, 29, 72, 73, 27, 28, 30, 31, 74, 75, 76, 77, 78, 87, 88, 89, 94, 95, 96, 97, 98, 99, 100, 101, 102] (by decide +kernel) (by decide +kernel)
set_option maxRecDepth 20000 in
theorem gL_isSo_X2_lagging : GoodIn wsL_isSo (wsV RL 29 RX2 yX2_lagging wsX2_lagging) := goodIn_app (goodIn_of _ (by decide +kernel)) ggL_isSo_X2_lagging
set_option maxRecDepth 20000 in
theorem ggL_isSo_X2_meanVisits : GoodIn wsL_isSo wsX2_meanVisits := goodIn_r _ [82, 21, 87, 88, 89, 94, 95, 96, 97, 98, 99, 100, 101, 102] (by decide +kernel) (by decide +kernel)
set_option maxRecDepth 20000 in
theorem gL_isSo_X2_meanVisits : GoodIn wsL_isSo (wsV RL 96 RX2 yX2_meanVisits wsX2_meanVisits) := goodIn_app (goodIn_of _ (by decide +kernel)) ggL_isSo_X2_meanVisits
set_option maxRecDepth 20000 in
theorem ggL_isSo_X2_allVisits : GoodIn wsL_isSo wsX2_allVisits := goodIn_r _ [86, 21, 87, 88, 89, 94, 95, 96, 97, 98, 99, 100, 101, 102] (by decide +kernel) (by decide +kernel)
set_option maxRecDepth 20000 in
theorem gL_isSo_X2_allVisits : GoodIn wsL_isSo (wsV RL 26 RX2 yX2_allVisits wsX2_allVisits) := goodIn_app (goodIn_of _ (by decide +kernel)) ggL_isSo_X2_allVisits
theorem dL_isSo_0 : decode cL_isSo 0 = .ok (.aload_n 0, 1) := by decide +kernel
theorem dL_isSo_1 : decode cL_isSo 1 = .ok (.invokevirtual 8, 3) := by decide +kernel
theorem dL_isSo_4 : decode cL_isSo 4 = .ok (.istore_n 1, 1) := by decide +kernel
theorem dL_isSo_5 : decode cL_isSo 5 = .ok (.iconst 0, 1) := by decide +kernel
theorem dL_isSo_6 : decode cL_isSo 6 = .ok (.istore_n 2, 1) := by decide +kernel
theorem dL_isSo_7 : decode cL_isSo 7 = .ok (.iconst 0, 1) := by decide +kernel
theorem dL_isSo_8 : decode cL_isSo 8 = .ok (.istore_n 3, 1) := by decide +kernel
theorem dL_isSo_9 : decode cL_isSo 9 = .ok (.iload_n 3, 1) := by decide +kernel
theorem dL_isSo_10 : decode cL_isSo 10 = .ok (.iload_n 1, 1) := by decide +kernel
theorem dL_isSo_11 : decode cL_isSo 11 = .ok (.if_icmp .ge 28, 3) := by decide +kernel
theorem dL_isSo_14 : decode cL_isSo 14 = .ok (.aload_n 0, 1) := by decide +kernel
theorem dL_isSo_15 : decode cL_isSo 15 = .ok (.iload_n 3, 1) := by decide +kernel
theorem dL_isSo_16 : decode cL_isSo 16 = .ok (.invokevirtual 50, 3) := by decide +kernel
theorem dL_isSo_19 : decode cL_isSo 19 = .ok (.iload_n 2, 1) := by decide +kernel
theorem dL_isSo_20 : decode cL_isSo 20 = .ok (.if_icmp .le 11, 3) := by decide +kernel
theorem dL_isSo_23 : decode cL_isSo 23 = .ok (.aload_n 0, 1) := by decide +kernel
theorem dL_isSo_24 : decode cL_isSo 24 = .ok (.iload_n 3, 1) := by decide +kernel
theorem dL_isSo_25 : decode cL_isSo 25 = .ok (.invokevirtual 50, 3) := by decide +kernel
theorem dL_isSo_28 : decode cL_isSo 28 = .ok (.goto 4, 3) := by decide +kernel
theorem dL_isSo_31 : decode cL_isSo 31 = .ok (.iload_n 2, 1) := by decide +kernel
theorem dL_isSo_32 : decode cL_isSo 32 = .ok (.istore_n 2, 1) := by decide +kernel
theorem dL_isSo_33 : decode cL_isSo 33 = .ok (.iinc 3 1, 3) := by decide +kernel
theorem dL_isSo_36 : decode cL_isSo 36 = .ok (.goto (-27), 3) := by decide +kernel
theorem dL_isSo_39 : decode cL_isSo 39 = .ok (.aload_n 0, 1) := by decide +kernel
theorem dL_isSo_40 : decode cL_isSo 40 = .ok (.iconst 1, 1) := by decide +kernel
theorem dL_isSo_41 : decode cL_isSo 41 = .ok (.invokevirtual 84, 3) := by decide +kernel
theorem dL_isSo_44 : decode cL_isSo 44 = .ok (.aload_n 0, 1) := by decide +kernel
theorem dL_isSo_45 : decode cL_isSo 45 = .ok (.iconst 0, 1) := by decide +kernel
theorem dL_isSo_46 : decode cL_isSo 46 = .ok (.iload_n 1, 1) := by decide +kernel
theorem dL_isSo_47 : decode cL_isSo 47 = .ok (.iconst 1, 1) := by decide +kernel
theorem dL_isSo_48 : decode cL_isSo 48 = .ok (.isub, 1) := by decide +kernel
theorem dL_isSo_49 : decode cL_isSo 49 = .ok (.invokevirtual 56, 3) := by decide +kernel
theorem dL_isSo_52 : decode cL_isSo 52 = .ok (.if_icmp .ne 46, 3) := by decide +kernel
theorem dL_isSo_55 : decode cL_isSo 55 = .ok (.aload_n 0, 1) := by decide +kernel
theorem dL_isSo_56 : decode cL_isSo 56 = .ok (.iconst 1, 1) := by decide +kernel
theorem dL_isSo_57 : decode cL_isSo 57 = .ok (.invokevirtual 78, 3) := by decide +kernel
theorem dL_isSo_60 : decode cL_isSo 60 = .ok (.iload_n 2, 1) := by decide +kernel
theorem dL_isSo_61 : decode cL_isSo 61 = .ok (.if_icmp .ne 37, 3) := by decide +kernel
theorem dL_isSo_64 : decode cL_isSo 64 = .ok (.aload_n 0, 1) := by decide +kernel
theorem dL_isSo_65 : decode cL_isSo 65 = .ok (.invokevirtual 32, 3) := by decide +kernel
theorem dL_isSo_68 : decode cL_isSo 68 = .ok (.aload_n 0, 1) := by decide +kernel
theorem dL_isSo_69 : decode cL_isSo 69 = .ok (.invokevirtual 93, 3) := by decide +kernel
theorem dL_isSo_72 : decode cL_isSo 72 = .ok (.if_icmp .ne 26, 3) := by decide +kernel
theorem dL_isSo_75 : decode cL_isSo 75 = .ok (.aload_n 0, 1) := by decide +kernel
theorem dL_isSo_76 : decode cL_isSo 76 = .ok (.invokevirtual 29, 3) := by decide +kernel
theorem dL_isSo_79 : decode cL_isSo 79 = .ok (.ifCond .lt 19, 3) := by decide +kernel
theorem dL_isSo_82 : decode cL_isSo 82 = .ok (.aload_n 0, 1) := by decide +kernel
theorem dL_isSo_83 : decode cL_isSo 83 = .ok (.invokevirtual 29, 3) := by decide +kernel
theorem dL_isSo_86 : decode cL_isSo 86 = .ok (.iconst 2, 1) := by decide +kernel
theorem dL_isSo_87 : decode cL_isSo 87 = .ok (.iload_n 1, 1) := by decide +kernel
theorem dL_isSo_88 : decode cL_isSo 88 = .ok (.imul, 1) := by decide +kernel
theorem dL_isSo_89 : decode cL_isSo 89 = .ok (.iconst 1, 1) := by decide +kernel
theorem dL_isSo_90 : decode cL_isSo 90 = .ok (.isub, 1) := by decide +kernel
theorem dL_isSo_91 : decode cL_isSo 91 = .ok (.if_icmp .ge 7, 3) := by decide +kernel
theorem dL_isSo_94 : decode cL_isSo 94 = .ok (.iconst 1, 1) := by decide +kernel
theorem dL_isSo_95 : decode cL_isSo 95 = .ok (.goto 4, 3) := by decide +kernel
theorem dL_isSo_98 : decode cL_isSo 98 = .ok (.iconst 0, 1) := by decide +kernel
theorem dL_isSo_99 : decode cL_isSo 99 = .ok (.istore_n 3, 1) := by decide +kernel
theorem dL_isSo_100 : decode cL_isSo 100 = .ok (.iload_n 3, 1) := by decide +kernel
theorem dL_isSo_101 : decode cL_isSo 101 = .ok (.ifCond .eq 45, 3) := by decide +kernel
theorem dL_isSo_104 : decode cL_isSo 104 = .ok (.aload_n 0, 1) := by decide +kernel
theorem dL_isSo_105 : decode cL_isSo 105 = .ok (.invokevirtual 96, 3) := by decide +kernel
theorem dL_isSo_108 : decode cL_isSo 108 = .ok (.dconst 0, 1) := by decide +kernel
theorem dL_isSo_109 : decode cL_isSo 109 = .ok (.dcmp .l, 1) := by decide +kernel
theorem dL_isSo_110 : decode cL_isSo 110 = .ok (.ifCond .lt 36, 3) := by decide +kernel
theorem dL_isSo_113 : decode cL_isSo 113 = .ok (.aload_n 0, 1) := by decide +kernel
theorem dL_isSo_114 : decode cL_isSo 114 = .ok (.invokevirtual 26, 3) := by decide +kernel
theorem dL_isSo_117 : decode cL_isSo 117 = .ok (.ifCond .le 7, 3) := by decide +kernel
theorem dL_isSo_120 : decode cL_isSo 120 = .ok (.iconst 1, 1) := by decide +kernel
theorem dL_isSo_121 : decode cL_isSo 121 = .ok (.goto 4, 3) := by decide +kernel
theorem dL_isSo_124 : decode cL_isSo 124 = .ok (.iconst 0, 1) := by decide +kernel
theorem dL_isSo_125 : decode cL_isSo 125 = .ok (.aload_n 0, 1) := by decide +kernel
theorem dL_isSo_126 : decode cL_isSo 126 = .ok (.invokevirtual 96, 3) := by decide +kernel
theorem dL_isSo_129 : decode cL_isSo 129 = .ok (.dconst 0, 1) := by decide +kernel
theorem dL_isSo_130 : decode cL_isSo 130 = .ok (.dcmp .l, 1) := by decide +kernel
theorem dL_isSo_131 : decode cL_isSo 131 = .ok (.ifCond .le 7, 3) := by decide +kernel
theorem dL_isSo_134 : decode cL_isSo 134 = .ok (.iconst 1, 1) := by decide +kernel
theorem dL_isSo_135 : decode cL_isSo 135 = .ok (.goto 4, 3) := by decide +kernel
theorem dL_isSo_138 : decode cL_isSo 138 = .ok (.iconst 0, 1) := by decide +kernel
theorem dL_isSo_139 : decode cL_isSo 139 = .ok (.if_icmp .ne 7, 3) := by decide +kernel
theorem dL_isSo_142 : decode cL_isSo 142 = .ok (.iconst 1, 1) := by decide +kernel
theorem dL_isSo_143 : decode cL_isSo 143 = .ok (.goto 4, 3) := by decide +kernel
theorem dL_isSo_146 : decode cL_isSo 146 = .ok (.iconst 0, 1) := by decide +kernel
theorem dL_isSo_147 : decode cL_isSo 147 = .ok (.ireturn, 1) := by decide +kernel
set_option maxRecDepth 20000 in
theorem ggL_law_X2_init : GoodIn wsL_law wsX2_init := goodIn_r _ [5, 6, 7, 8, 9, 10, 11, 12, 13, 14, 15, 16, 17, 18, 19, 20, 21, 22, 23, 24, 25, 26, 27, 28, 29, 30, 31, 32, 33, 34, 35, 36, 37, 38, 39, 40, 41, 42, 43, 44, 45, 46, 47, 48, 49, 50, 51, 52, 53, 54, 55, 56, 57, 318, 319, 320, 321, 322, 323, 324, 325, 326, 315, 316, 317, 327, 328, 329, 330] (by decide +kernel) (by decide +kernel)
set_option maxRecDepth 20000 in
theorem gL_law_X2_init : GoodIn wsL_law (wsX2_init) := ggL_law_X2_init
set_option maxRecDepth 20000 in
theorem ggL_law_L_cell : GoodIn wsL_law wsL_cell := goodIn_r _ [61] (by decide +kernel) (by decide +kernel)
set_option maxRecDepth 20000 in
theorem gL_law_L_cell : GoodIn wsL_law (va_wsS RL 101 yL_cell wsL_cell) := goodIn_app (goodIn_of _ (by decide +kernel)) ggL_law_L_cell
set_option maxRecDepth 20000 in
theorem ggL_law_L_low : GoodIn wsL_law wsL_low := goodIn_r _ [64, 65] (by decide +kernel) (by decide +kernel)
set_option maxRecDepth 20000 in
theorem gL_law_L_low : GoodIn wsL_law (va_wsS RL 14 yL_low wsL_low) := goodIn_app (goodIn_of _ (by decide +kernel)) ggL_law_L_low
set_option maxRecDepth 20000 in
theorem ggL_law_X2_layOut : GoodIn wsL_law wsX2_layOut := goodIn_r _ [69, 12, 16, 17, 70, 71, 2, 72, 73, 74, 33, 34, 35, 11, 36, 23, 22, 24, 25, 26, 27, 37, 38, 39, 40, 41, 42, 43, 44, 45, 46, 47, 48, 49, 50, 51, 52, 53, 54, 15, 55, 56, 57, 31, 32, 315, 316, 317, 318, 319, 320, 321, 322, 323, 324, 325, 326, 327, 328, 329, 330] (by decide +kernel) (by decide +kernel)
set_option maxRecDepth 20000 in
theorem gL_law_X2_layOut : GoodIn wsL_law (wsV RL 20 RX2 yX2_layOut wsX2_layOut) := goodIn_app (goodIn_of _ (by decide +kernel)) ggL_law_X2_layOut
set_option maxRecDepth 20000 in
theorem ggL_law_L_does : GoodIn wsL_law wsL_does := goodIn_r _ [77, 78, 79, 80, 2, 81, 16, 62, 63, 60, 64, 65, 66, 67, 68, 69, 12, 17, 70, 71, 72, 73, 74, 33, 34, 35, 11, 36, 23, 22, 24, 25, 26, 27, 37, 38, 39, 40, 41, 42, 43, 44, 45, 46, 47, 48, 49, 50, 51, 52, 53, 54, 15, 55, 56, 57, 31, 32, 82, 83, 84, 85, 86, 87, 88, 89, 90, 91, 92, 93, 94, 95, 96, 97, 98, 99, 100, 101, 102, 103, 104, 105, 106, 107, 108, 109, 110, 111, 112, 113, 114, 115, 116, 117, 118, 119, 120, 121, 122, 123, 124, 125, 126, 127, 128, 129, 130, 131, 132, 133, 134, 135, 136, 137, 138, 139, 140, 141, 142, 143, 144, 145, 146, 147, 148, 149, 150, 151, 152, 153, 154, 155, 156, 157, 158, 159, 160, 161, 162, 163, 164, 165, 166, 167, 168, 169, 170, 171, 172, 173, 174, 175, 176, 177, 178, 179, 180, 181, 182, 183, 184, 185, 186, 187, 188, 189, 190, 191, 192, 193, 194, 195, 196, 197, 198, 199, 200, 201, 202, 203, 204, 205, 206, 207, 208, 209, 210, 211, 212, 213, 214, 215, 216, 217, 218, 219, 220, 221, 222, 223, 224, 225, 226, 227, 228, 229, 230, 231, 232, 233, 234, 235, 236, 237, 238, 239, 240, 241, 242, 243, 244, 245, 246, 247, 248, 249, 250, 251, 252, 253, 254, 255, 256, 257, 258, 259, 260, 261, 262, 263, 264, 265, 266, 267, 268, 269, 270, 271, 272, 273, 274, 275, 315, 316, 317, 327, 328, 329, 330, 318, 319, 320, 321, 322, 323, 324, 325, 326] (by decide +kernel) (by decide +kernel)
set_option maxRecDepth 20000 in
theorem gL_law_L_does : GoodIn wsL_law (va_wsS RL 105 yL_does wsL_does) := goodIn_app (goodIn_of _ (by decide +kernel)) ggL_law_L_does
set_option maxRecDepth 20000 in
theorem ggL_law_L_isSo : GoodIn wsL_law wsL_isSo := goodIn_r _ [278, 78, 79, 80, 2, 81, 16, 135, 136, 137, 138, 117, 118, 119, 120, 121, 122, 279, 280, 281, 282, 12, 283, 284, 285, 286, 287, 99, 100, 11, 101, 23, 195, 196, 197, 198, 199, 200, 201, 202, 73, 74, 203, 204, 205, 15, 206, 31, 207, 182, 129, 183, 288, 289, 290, 291, 106, 107, 108, 109, 17, 292, 293, 294, 295, 90, 91, 92, 93, 94, 95, 96, 97, 98, 102, 103, 104, 105, 24, 296, 297, 298, 299, 86, 87, 88, 89, 315, 316, 317, 327, 328, 329, 330, 318, 319, 320, 321, 322, 323, 324, 325, 326] (by decide +kernel) (by decide +kernel)
set_option maxRecDepth 20000 in
theorem gL_law_L_isSo : GoodIn wsL_law (va_wsS RL 108 yL_isSo wsL_isSo) := goodIn_app (goodIn_of _ (by decide +kernel)) ggL_law_L_isSo
set_option maxRecDepth 20000 in
theorem ggL_law_X2_columns : GoodIn wsL_law wsX2_columns := goodIn_r _ [81, 16, 315, 316, 317, 327, 328, 329, 330] (by decide +kernel) (by decide +kernel)
set_option maxRecDepth 20000 in
theorem gL_law_X2_columns : GoodIn wsL_law (wsV RL 8 RX2 yX2_columns wsX2_columns) := goodIn_app (goodIn_of _ (by decide +kernel)) ggL_law_X2_columns
set_option maxRecDepth 20000 in
theorem ggL_law_L_isEntrySo : GoodIn wsL_law wsL_isEntrySo := goodIn_r _ [302, 288, 289, 290, 2, 291, 12, 283, 284, 285, 286, 121, 122, 287, 99, 100, 11, 101, 23, 303, 304, 305, 306, 135, 136, 137, 138, 16, 117, 118, 119, 120, 195, 196, 197, 198, 199, 200, 201, 202, 73, 74, 203, 204, 205, 15, 206, 31, 207, 182, 129, 183, 279, 280, 281, 282, 307, 308, 309, 310, 311, 312, 313, 314, 113, 114, 115, 116, 123, 124, 125, 126, 24, 127, 128, 130, 98, 131, 132, 133, 134, 22, 315, 316, 317, 318, 319, 320, 321, 322, 323, 324, 325, 326, 327, 328, 329, 330] (by decide +kernel) (by decide +kernel)
set_option maxRecDepth 20000 in
theorem gL_law_L_isEntrySo : GoodIn wsL_law (va_wsS RL 112 yL_isEntrySo wsL_isEntrySo) := goodIn_app (goodIn_of _ (by decide +kernel)) ggL_law_L_isEntrySo
theorem dL_law_0 : decode cL_law 0 = .ok (.new 9, 3) := by decide +kernel
theorem dL_law_3 : decode cL_law 3 = .ok (.dup, 1) := by decide +kernel
theorem dL_law_4 : decode cL_law 4 = .ok (.invokespecial 100, 3) := by decide +kernel
theorem dL_law_7 : decode cL_law 7 = .ok (.astore_n 1, 1) := by decide +kernel
theorem dL_law_8 : decode cL_law 8 = .ok (.aload_n 1, 1) := by decide +kernel
theorem dL_law_9 : decode cL_law 9 = .ok (.iconst 2, 1) := by decide +kernel
theorem dL_law_10 : decode cL_law 10 = .ok (.aload_n 0, 1) := by decide +kernel
theorem dL_law_11 : decode cL_law 11 = .ok (.iconst 0, 1) := by decide +kernel
theorem dL_law_12 : decode cL_law 12 = .ok (.invokestatic 101, 3) := by decide +kernel
theorem dL_law_15 : decode cL_law 15 = .ok (.bipush 40, 2) := by decide +kernel
theorem dL_law_17 : decode cL_law 17 = .ok (.invokestatic 14, 3) := by decide +kernel
theorem dL_law_20 : decode cL_law 20 = .ok (.iadd, 1) := by decide +kernel
theorem dL_law_21 : decode cL_law 21 = .ok (.bipush 100, 2) := by decide +kernel
theorem dL_law_23 : decode cL_law 23 = .ok (.invokevirtual 20, 3) := by decide +kernel
theorem dL_law_26 : decode cL_law 26 = .ok (.istore_n 2, 1) := by decide +kernel
theorem dL_law_27 : decode cL_law 27 = .ok (.iload_n 2, 1) := by decide +kernel
theorem dL_law_28 : decode cL_law 28 = .ok (.sipush 200, 3) := by decide +kernel
theorem dL_law_31 : decode cL_law 31 = .ok (.if_icmp .ge 5, 3) := by decide +kernel
theorem dL_law_34 : decode cL_law 34 = .ok (.iconst 0, 1) := by decide +kernel
theorem dL_law_35 : decode cL_law 35 = .ok (.ireturn, 1) := by decide +kernel
theorem dL_law_36 : decode cL_law 36 = .ok (.iconst 0, 1) := by decide +kernel
theorem dL_law_37 : decode cL_law 37 = .ok (.istore_n 3, 1) := by decide +kernel
theorem dL_law_38 : decode cL_law 38 = .ok (.iload_n 3, 1) := by decide +kernel
theorem dL_law_39 : decode cL_law 39 = .ok (.bipush 56, 2) := by decide +kernel
theorem dL_law_41 : decode cL_law 41 = .ok (.if_icmp .ge 60, 3) := by decide +kernel
theorem dL_law_44 : decode cL_law 44 = .ok (.aload_n 0, 1) := by decide +kernel
theorem dL_law_45 : decode cL_law 45 = .ok (.iload_n 3, 1) := by decide +kernel
theorem dL_law_46 : decode cL_law 46 = .ok (.invokestatic 101, 3) := by decide +kernel
theorem dL_law_49 : decode cL_law 49 = .ok (.istore 4, 2) := by decide +kernel
theorem dL_law_51 : decode cL_law 51 = .ok (.aload_n 1, 1) := by decide +kernel
theorem dL_law_52 : decode cL_law 52 = .ok (.iload 4, 2) := by decide +kernel
theorem dL_law_54 : decode cL_law 54 = .ok (.aload_n 0, 1) := by decide +kernel
theorem dL_law_55 : decode cL_law 55 = .ok (.iload_n 3, 1) := by decide +kernel
theorem dL_law_56 : decode cL_law 56 = .ok (.bipush 8, 2) := by decide +kernel
theorem dL_law_58 : decode cL_law 58 = .ok (.iadd, 1) := by decide +kernel
theorem dL_law_59 : decode cL_law 59 = .ok (.invokestatic 101, 3) := by decide +kernel
theorem dL_law_62 : decode cL_law 62 = .ok (.invokestatic 105, 3) := by decide +kernel
theorem dL_law_65 : decode cL_law 65 = .ok (.ifCond .eq 28, 3) := by decide +kernel
theorem dL_law_68 : decode cL_law 68 = .ok (.aload_n 1, 1) := by decide +kernel
theorem dL_law_69 : decode cL_law 69 = .ok (.invokestatic 108, 3) := by decide +kernel
theorem dL_law_72 : decode cL_law 72 = .ok (.ifCond .eq 21, 3) := by decide +kernel
theorem dL_law_75 : decode cL_law 75 = .ok (.aload_n 1, 1) := by decide +kernel
theorem dL_law_76 : decode cL_law 76 = .ok (.iload 4, 2) := by decide +kernel
theorem dL_law_78 : decode cL_law 78 = .ok (.iconst 5, 1) := by decide +kernel
theorem dL_law_79 : decode cL_law 79 = .ok (.ishr, 1) := by decide +kernel
theorem dL_law_80 : decode cL_law 80 = .ok (.aload_n 1, 1) := by decide +kernel
theorem dL_law_81 : decode cL_law 81 = .ok (.invokevirtual 8, 3) := by decide +kernel
theorem dL_law_84 : decode cL_law 84 = .ok (.invokestatic 14, 3) := by decide +kernel
theorem dL_law_87 : decode cL_law 87 = .ok (.invokestatic 112, 3) := by decide +kernel
theorem dL_law_90 : decode cL_law 90 = .ok (.ifCond .ne 5, 3) := by decide +kernel
theorem dL_law_93 : decode cL_law 93 = .ok (.iconst 0, 1) := by decide +kernel
theorem dL_law_94 : decode cL_law 94 = .ok (.ireturn, 1) := by decide +kernel
theorem dL_law_95 : decode cL_law 95 = .ok (.iinc 3 1, 3) := by decide +kernel
theorem dL_law_98 : decode cL_law 98 = .ok (.goto (-60), 3) := by decide +kernel
theorem dL_law_101 : decode cL_law 101 = .ok (.iconst 1, 1) := by decide +kernel
theorem dL_law_102 : decode cL_law 102 = .ok (.ireturn, 1) := by decide +kernel
end
section
/-! A method's start and end, for worlds that keep their cells; calls that put the callee's cells back beside the rest. -/
def pq_Pc (D : va_G) (tys : List (ClassId × FieldType)) (E : (Nat → Prop) → State → Prop) (wc : va_W) (sz : Nat) (av : List Value) : Array Value → State → Prop :=
  va_Pc av (fun U => U.heap.size = sz ∧ va_P D vwCl wc U.heap ∧ va_K D vwCl tys U ∧ va_D (fun _ => True) wc ∧ E (va_A wc sz) U)
def pq_Q (D : va_G) (tys : List (ClassId × FieldType)) (A : Nat → Prop) (post : Option Value → va_W → Prop) : Array Value → State → Outcome → State → Prop :=
  fun _ st oc t => (∃ (v : Option Value) (w1 : va_W), oc = .returned v ∧ post v w1 ∧ va_P D vwCl w1 t.heap ∧ va_K D vwCl tys t ∧ va_D A w1) ∧ va_F A st t
abbrev pq_R (fr lo mc ms : Nat) : Room := { frames := fr, cells := mc, slots := ms, locals := lo }
def pq_M (l : Launch) (y : MethodName) (ws : List Cond) (fr lo mc ms : Nat) (D : va_G) (tys : List (ClassId × FieldType)) (E : (Nat → Prop) → State → Prop) (wc : va_W) (av : List Value) (post : Option Value → va_W → Prop) : Prop :=
  ∀ sz : Nat, Met l y ws (pq_R fr lo mc ms) (pq_Pc D tys E wc sz av) (pq_Q D tys (va_A wc sz) post) mc ms (va_A wc sz)
def pq_0 : (Nat → Prop) → State → Prop := fun _ _ => True
def pq_Bl (E : (Nat → Prop) → State → Prop) : Prop := ∀ (A : Nat → Prop) (U : State) (g : JFrame) (mk : MethodId) (a : Array Value), E A U → E A (U.calling g mk a)
theorem pq_bl0 : pq_Bl pq_0 := fun _ _ _ _ _ _ => trivial
theorem pq_blind {D : va_G} {tys : List (ClassId × FieldType)} {E : (Nat → Prop) → State → Prop} (hE : pq_Bl E) {wc : va_W} {sz : Nat} {av : List Value} : FrameBlind (pq_Pc D tys E wc sz av) := by
  intro a U g mk q
  obtain ⟨q0, q1, qP, qK, qD, qE⟩ := q
  exact ⟨q0, q1, qP, va_K.moved (u := U) (U := U.calling g mk a) (Vm.Alike.refl U.vm) qK, qD, hE _ U g mk a qE⟩
theorem i_lt {a b : Int32} (h : ¬ a ≤ b) : b < a := Int32.not_le.mp h
theorem i_le {a b : Int32} (h : ¬ a < b) : b ≤ a := Int32.not_lt.mp h
theorem i_nlt {a b : Int32} (h : a ≤ b) : ¬ b < a := Int32.not_lt.mpr h
theorem i_nle {a b : Int32} (h : a < b) : ¬ b ≤ a := Int32.not_le.mpr h
theorem pq_fm {α β : Type} (f : α → Option β) : ∀ (is : List α) (w : List β), is.map f = w.map some → is.filterMap f = w := by
  intro is
  induction is with
  | nil =>
    intro w h
    cases w with
    | nil => rfl
    | cons x w => simp at h
  | cons i is ih =>
    intro w h
    cases w with
    | nil => simp at h
    | cons x w =>
      rw [List.map_cons, List.map_cons, List.cons.injEq] at h
      rw [List.filterMap_cons, h.1]
      exact congrArg (x :: ·) (ih w h.2)
section PQ
variable {p : Program} {l : Launch} {e : Env} {R : Room} {s : State} {m : MethodId} {args : Array Value} {below : List Frame} {meth : Method} {c : Code} {H : Heap} {locs : List Loc} {cells slots : Nat} {Q : State → Prop}
variable {y : MethodName} {ws ws' : List Cond} {fr lo mc ms maxL : Nat} {D : va_G} {tys tys0 : List (ClassId × FieldType)} {E : (Nat → Prop) → State → Prop} {wc wr w : va_W} {av : List Value} {post : Option Value → va_W → Prop} {cc bytes : ByteArray} {ret : Option FieldType} {A : Nat → Prop} {ls : Array Slot} {pc : Nat} {st0 rest : List Value}
set_option maxHeartbeats 2000000 in
theorem pq_enter (hy : plainName y.cls = true) (hw : ws = Cond.code y cc maxL ret :: ws') (hn : (lg_sl av).length ≤ maxL)
    (body : ∀ (p : Program) (e : Env) (s : State) (m : MethodId) (args : Array Value) (below : List Frame) (meth : Method) (c : Code) (A : Nat → Prop) (ls : Array Slot) (Q : State → Prop) (H : Heap) (locs : List Loc), p.tables.exec = Jvm.exec → c.code = cc → meth.sig.returnType = ret → c.maxLocals = maxL → (∀ w ∈ ws, w.before args s = true) → s.vm.findClass y.cls = some m.cls → meth.locks = false → meth.name = y.name → va_K D vwCl tys s → va_P D vwCl wc H → va_D A wc → va_S A s.heap H locs → (∀ q, s.heap.size ≤ q → A q) → E A s → lv_has ls maxL (lv_args 0 av) → Q = MQ below (pq_Q D tys A post) args s mc ms A →
      W p l e (pq_R fr lo mc ms) s m args below meth c H locs 0 0 Q (F0 m 0 ls [])) : pq_M l y ws fr lo mc ms D tys E wc av post := by
  intro sz
  refine Met.ofW (cc := cc) (maxL := maxL) (ret := ret) hy hw ?_
  intro p e s m args below meth c s₁ B hml hv
  obtain ⟨rfl, hsz, hP, hK, hD0, hE⟩ := hv
  have hts := atoms_spec (ws := ws) B.pre
  have hown : s.vm.findClass y.cls = some m.cls := findClass_of_methodNamed B.named
  subst hsz
  have hD := hD0.self (sz := s.heap.size)
  have hl := lv_entry av (n := maxL) hn
  rw [lg_entry_eq]
  exact body p e s m av.toArray below meth c (va_A wc s.heap.size) _ _ s.heap [] B.exec B.bytes B.returns hml hts hown B.notSynchronized (name_of_methodNamed B.named B.method).1 hK hP hD va_S.rf (fun q h => Or.inr h) hE hl rfl
theorem pq_iret {w1 : va_W} {v : Int32} (hQ : Q = MQ below (pq_Q D tys A post) args s mc ms A) (hx : p.tables.exec = Jvm.exec) (hb : c.code = cc) (hr : meth.sig.returnType = some .int) (hlocks : meth.locks = false) (hK : va_K D vwCl tys s) (hS : va_S A s.heap H locs) (hP : va_P D vwCl w1 H) (hD : va_D A w1) (hdg : decode cc pc = .ok (.ireturn, 1)) (hc : cells ≤ mc) (hs : slots ≤ ms) (hpost : post (some (.int v)) w1) :
    W p l e R s m args below meth c H locs cells slots Q (F0 m pc ls [.int v]) := by
  subst hQ
  refine W.widen hc hs ?_
  exact W.iret hx hb hr (fun t ht hW => ⟨⟨_, w1, rfl, hpost, by rw [ht]; exact hP, va_K.moved hW.alike hK, hD⟩, hS.F ht⟩) hS.2.2 hdg
theorem pq_nar {v : Int32} (h : v = 0 ∨ v = 1) : narrow .boolean (.int v) = .int v := by
  rcases h with rfl | rfl <;> rfl
theorem pq_b01 (P : Prop) [Decidable P] : (if P then (1 : Int32) else 0) = 0 ∨ (if P then (1 : Int32) else 0) = 1 := by
  by_cases h : P
  · exact Or.inr (if_pos h)
  · exact Or.inl (if_neg h)
theorem pq_zret {w1 : va_W} {v : Int32} (hQ : Q = MQ below (pq_Q D tys A post) args s mc ms A) (hx : p.tables.exec = Jvm.exec) (hb : c.code = cc) (hr : meth.sig.returnType = some .boolean) (hlocks : meth.locks = false) (hK : va_K D vwCl tys s) (hS : va_S A s.heap H locs) (hP : va_P D vwCl w1 H) (hD : va_D A w1) (hdg : decode cc pc = .ok (.ireturn, 1)) (hc : cells ≤ mc) (hs : slots ≤ ms) (h01 : v = 0 ∨ v = 1) (hpost : post (some (.int v)) w1) :
    W p l e R s m args below meth c H locs cells slots Q (F0 m pc ls [.int v]) := by
  subst hQ
  refine W.widen hc hs ?_
  exact W.zret hx hb hr (pq_nar h01) (fun t ht hW => ⟨⟨_, w1, rfl, hpost, by rw [ht]; exact hP, va_K.moved hW.alike hK, hD⟩, hS.F ht⟩) hS.2.2 hdg
theorem pq_vret {w1 : va_W} (hQ : Q = MQ below (pq_Q D tys A post) args s mc ms A) (hx : p.tables.exec = Jvm.exec) (hb : c.code = cc) (hr : meth.sig.returnType = none) (hlocks : meth.locks = false) (hK : va_K D vwCl tys s) (hS : va_S A s.heap H locs) (hP : va_P D vwCl w1 H) (hD : va_D A w1) (hdg : decode cc pc = .ok (.return_, 1)) (hc : cells ≤ mc) (hs : slots ≤ ms) (hpost : post none w1) :
    W p l e R s m args below meth c H locs cells slots Q (F0 m pc ls []) := by
  subst hQ
  refine W.widen hc hs ?_
  exact W.vret hx hb hr (fun t ht hW => ⟨⟨_, w1, rfl, hpost, by rw [ht]; exact hP, va_K.moved hW.alike hK, hD⟩, hS.F ht⟩) hS.2.2 hdg
/-- behind a call -/
theorem pq_back {a : Array Value} {A1 : Nat → Prop} {isC isR : List Nat} (hr : va_Run p l e R s m args below meth c H locs cells slots mc ms (F0 m pc ls st0) rest (pq_Q D tys A1 post a) A1) (hA1 : A1 = va_A wc H.size) (hP : va_P D vwCl w H) (hD : va_D A w) (hS : va_S A s.heap H locs) (hA : ∀ q, s.heap.size ≤ q → A q)
    (hC : isC.map (fun i => w[i]?) = wc.map some) (hR : isR.map (fun i => w[i]?) = wr.map some) (hn : va_nd isR = true) (hdis : ∀ i ∈ isR, i ∉ isC)
    (kk : ∀ (v : Option Value) (w1 : va_W) (H1 : Heap) (locs1 : List Loc), post v w1 → va_P D vwCl (wr ++ w1) H1 → va_D A (wr ++ w1) → va_S A s.heap H1 locs1 → H.size ≤ H1.size → W p l e R s m args below meth c H1 locs1 (cells + mc) (slots + ms) Q (F0 m (pc + 3) ls (v.toList ++ rest))) :
    W p l e R s m args below meth c H locs cells slots Q (F0 m pc ls st0) := by
  subst hA1
  have hF : ∀ q, va_A wc H.size q → A q := va_free (wc := wc) hD hS hA isC hC
  intro T hT X
  obtain ⟨v, st₀, t, T', L, h0, X', hL, e1, e2, ⟨⟨v', w1, hv, hp, hP1, hK1, hD1⟩, hz, hk⟩, st⟩ := hr T hT X
  cases hv
  rw [h0] at hz hk
  obtain ⟨hPj, hDj⟩ := va_join (H1 := T'.heap) hP hD isC isR hC hR hn hdis (fun q h1 h2 => by rw [e1]; exact hk q h1 h2) hF (by rw [e1]; exact hP1) hD1
  obtain ⟨t2, a1, b1⟩ := kk v w1 T'.heap (locs ++ L) hp hPj hDj
    ⟨Nat.le_trans hS.1 (by rw [e1]; exact hz), fun q h1 h2 => by rw [e1, hk q (Nat.lt_of_lt_of_le h1 hS.1) (fun z => h2 (hF q z))]; exact hS.2.1 q h1 h2, fun q hq => by
      rcases List.mem_append.mp hq with h | h
      · exact hS.2.2 q h
      · exact hF _ (hL q h)⟩ (by rw [e1]; exact hz) T' rfl X'
  exact ⟨t2, st t2 a1, b1⟩
theorem pq_pre {isC : List Nat} (hEb : pq_Bl E) (hE : ∀ U : State, U.heap = H → s.WarmedH U.vm → E (va_A wc H.size) U) (hK : va_K D vwCl tys s) (hP : va_P D vwCl w H) (hD : va_D A w) (hC : isC.map (fun i => w[i]?) = wc.map some) (hnC : va_nd isC = true) : PreS s H (pq_Pc D tys E wc H.size av) av := by
  have hPc := hP.sub isC (pq_fm _ _ _ hC)
  have hDc := hD.sub isC hnC hC
  exact ⟨pq_blind hEb, fun U hU hW => ⟨rfl, by rw [hU], by rw [hU]; exact hPc, va_K.moved hW.alike hK, hDc.weaken (fun _ _ _ _ => trivial), hE U hU hW⟩⟩
theorem pq_callV {own C : String} {index n nL : Nat} {Ts : List Cond} {b q0 ci : Nat} {fs : List Value} {q : vw_C} (isC isR : List Nat) (As : List Value) (hM : pq_M l y ws fr lo mc ms D tys E wc (.ref b :: As) post)
    (S : CallFix p m c cc nL s args Ts own) (cw : CallW R s args own C index y bytes maxL ret ws (pq_R fr lo mc ms) mc ms n)
    (hEb : pq_Bl E) (hE : ∀ U : State, U.heap = H → s.WarmedH U.vm → E (va_A wc H.size) U) (hK : va_K D vwCl tys s) (hP : va_P D vwCl w H) (hD : va_D A w) (hS : va_S A s.heap H locs) (hA : ∀ q, s.heap.size ≤ q → A q)
    (hC : isC.map (fun i => w[i]?) = wc.map some) (hnC : va_nd isC = true) (hR : isR.map (fun i => w[i]?) = wr.map some) (hn : va_nd isR = true) (hdis : ∀ i ∈ isR, i ∉ isC)
    (hq0 : w[q0]? = some (b, .inr (ci, fs))) (hci : vwCl[ci]? = some q) (hqC : q.1 = C) (hlen : As.length = n) (hsize : ls.size = nL) (hst : st0 = As.reverse ++ .ref b :: rest) (hW : (rest.map fun v => v.category).sum ≤ 8) (hdg : decode cc pc = .ok (.invokevirtual index, 3)) (hf : cells + mc ≤ R.cells ∧ slots + ms ≤ R.slots)
    (kk : ∀ (v : Option Value) (w1 : va_W) (H1 : Heap) (locs1 : List Loc), post v w1 → va_P D vwCl (wr ++ w1) H1 → va_D A (wr ++ w1) → va_S A s.heap H1 locs1 → H.size ≤ H1.size → W p l e R s m args below meth c H1 locs1 (cells + mc) (slots + ms) Q (F0 m (pc + 3) ls (v.toList ++ rest))) :
    W p l e R s m args below meth c H locs cells slots Q (F0 m pc ls st0) := by
  subst hqC
  have hpre := pq_pre (av := .ref b :: As) hEb hE hK hP hD hC hnC
  exact pq_back (va_runV (As := As) (rest := rest) S (hM H.size) cw ⟨hpre.1, va_recv hK hP hci hq0, hpre.2⟩ rfl hlen hsize hst (lv_room hW) hdg hf) rfl hP hD hS hA hC hR hn hdis kk
theorem pq_callI {own : String} {index n nL : Nat} {Ts : List Cond} {b : Nat} (isC isR : List Nat) (As : List Value) (hM : pq_M l y ws fr lo mc ms D tys E wc (.ref b :: As) post)
    (S : CallFix p m c cc nL s args Ts own) (cw : CallB R s args own index y bytes maxL none ws (pq_R fr lo mc ms) mc ms n ∧ y.name = "<init>" ∧ (Cond.instanceMethod y).before args s = true)
    (hEb : pq_Bl E) (hE : ∀ U : State, U.heap = H → s.WarmedH U.vm → E (va_A wc H.size) U) (hK : va_K D vwCl tys s) (hP : va_P D vwCl w H) (hD : va_D A w) (hS : va_S A s.heap H locs) (hA : ∀ q, s.heap.size ≤ q → A q)
    (hC : isC.map (fun i => w[i]?) = wc.map some) (hnC : va_nd isC = true) (hR : isR.map (fun i => w[i]?) = wr.map some) (hn : va_nd isR = true) (hdis : ∀ i ∈ isR, i ∉ isC)
    (hlen : As.length = n) (hsize : ls.size = nL) (hst : st0 = As.reverse ++ .ref b :: rest) (hW : (rest.map fun v => v.category).sum ≤ 8) (hdg : decode cc pc = .ok (.invokespecial index, 3)) (hf : cells + mc ≤ R.cells ∧ slots + ms ≤ R.slots)
    (kk : ∀ (v : Option Value) (w1 : va_W) (H1 : Heap) (locs1 : List Loc), post v w1 → va_P D vwCl (wr ++ w1) H1 → va_D A (wr ++ w1) → va_S A s.heap H1 locs1 → H.size ≤ H1.size → W p l e R s m args below meth c H1 locs1 (cells + mc) (slots + ms) Q (F0 m (pc + 3) ls (v.toList ++ rest))) :
    W p l e R s m args below meth c H locs cells slots Q (F0 m pc ls st0) :=
  pq_back (va_runI (As := As) (rest := rest) S (hM H.size) cw (pq_pre (av := .ref b :: As) hEb hE hK hP hD hC hnC) rfl hlen hsize hst (lv_room hW) hdg hf) rfl hP hD hS hA hC hR hn hdis kk
theorem pq_callS {own : String} {index n nL : Nat} {Ts : List Cond} (isC isR : List Nat) (As : List Value) (hM : pq_M l y ws fr lo mc ms D tys E wc As post)
    (S : CallFix p m c cc nL s args Ts own) (cw : CallB R s args own index y bytes maxL ret ws (pq_R fr lo mc ms) mc ms n ∧ (Cond.static y).before args s = true)
    (hEb : pq_Bl E) (hE : ∀ U : State, U.heap = H → s.WarmedH U.vm → E (va_A wc H.size) U) (hK : va_K D vwCl tys s) (hP : va_P D vwCl w H) (hD : va_D A w) (hS : va_S A s.heap H locs) (hA : ∀ q, s.heap.size ≤ q → A q)
    (hC : isC.map (fun i => w[i]?) = wc.map some) (hnC : va_nd isC = true) (hR : isR.map (fun i => w[i]?) = wr.map some) (hn : va_nd isR = true) (hdis : ∀ i ∈ isR, i ∉ isC)
    (hlen : As.length = n) (hsize : ls.size = nL) (hst : st0 = As.reverse ++ rest) (hW : (rest.map fun v => v.category).sum ≤ 8) (hdg : decode cc pc = .ok (.invokestatic index, 3)) (hf : cells + mc ≤ R.cells ∧ slots + ms ≤ R.slots)
    (kk : ∀ (v : Option Value) (w1 : va_W) (H1 : Heap) (locs1 : List Loc), post v w1 → va_P D vwCl (wr ++ w1) H1 → va_D A (wr ++ w1) → va_S A s.heap H1 locs1 → H.size ≤ H1.size → W p l e R s m args below meth c H1 locs1 (cells + mc) (slots + ms) Q (F0 m (pc + 3) ls (v.toList ++ rest))) :
    W p l e R s m args below meth c H locs cells slots Q (F0 m pc ls st0) :=
  pq_back (va_runS (As := As) (rest := rest) S (hM H.size) cw (pq_pre (av := As) hEb hE hK hP hD hC hnC) rfl hlen hsize hst (lv_room hW) hdg hf) rfl hP hD hS hA hC hR hn hdis kk
/-- the top of the stack under another name -/
theorem pq_top {x : Int32} (z : Int32) (h : x = z) (k : W p l e R s m args below meth c H locs cells slots Q (F0 m pc ls (.int z :: rest))) : W p l e R s m args below meth c H locs cells slots Q (F0 m pc ls (.int x :: rest)) := by
  rw [h]; exact k
theorem pq_iald {ws : va_W} {a : Nat} (hx : p.tables.exec = Jvm.exec) (hb : c.code = cc) (hK : va_K D vwCl tys s) (hP : va_P D vwCl ws H) (q0 t0 : Nat) {cA : ClassId} {n : Nat} {f : Nat → Int32} (ha : ws[q0]? = some (a, .inl (cA, n, .inl f))) (ht : tys[t0]? = some (cA, .int)) (j : Nat) (hj : j < n) (hn : n ≤ 128) (hdg : decode cc pc = .ok (.iaload, 1))
    (kk : W p l e R s m args below meth c H locs cells slots Q (F0 m (pc + 1) ls (.int (f j) :: rest))) : W p l e R s m args below meth c H locs cells slots Q (F0 m pc ls (.int (nI j) :: .ref a :: rest)) := by
  refine va_iald hx hb hK hP q0 t0 ha ht (vp_in_nI hj (by omega)) hdg ?_
  rw [nI_clamp (by omega)]
  exact kk
theorem pq_iast {ws : va_W} {a : Nat} {H0 : Heap} (hx : p.tables.exec = Jvm.exec) (hb : c.code = cc) (hK : va_K D vwCl tys s) (hP : va_P D vwCl ws H) (hD : va_D A ws) (hS : va_S A H0 H locs) (q0 t0 : Nat) {cA : ClassId} {n : Nat} {f : Nat → Int32} (ha : ws[q0]? = some (a, .inl (cA, n, .inl f))) (ht : tys[t0]? = some (cA, .int)) (j : Nat) {x : Int32} (hj : j < n) (hn : n ≤ 128) (hdg : decode cc pc = .ok (.iastore, 1))
    (kk : ∀ (H1 : Heap) (locs1 : List Loc), va_P D vwCl (ws.set q0 (a, .inl (cA, n, .inl (upd f j x)))) H1 → va_D A (ws.set q0 (a, .inl (cA, n, .inl (upd f j x)))) → va_S A H0 H1 locs1 → W p l e R s m args below meth c H1 locs1 cells slots Q (F0 m (pc + 1) ls rest)) : W p l e R s m args below meth c H locs cells slots Q (F0 m pc ls (.int x :: .int (nI j) :: .ref a :: rest)) := by
  refine va_iast hx hb hK hP hD hS q0 t0 ha ht (vp_in_nI hj (by omega)) hdg ?_
  rw [nI_clamp (by omega)]
  exact kk
theorem pq_dec {k : Nat} (h : 1 ≤ k) : nI k + Int32.ofInt (-1) = nI (k - 1) := by
  obtain ⟨j, rfl⟩ : ∃ j, k = j + 1 := ⟨k - 1, by omega⟩
  exact pk_m1 j
end PQ
end
section
/-! What the rows of the book hold, and what its methods make of it: words of Int32, as the program has them. -/
/-- greatest, second, many, sum; latestVisits, totalVisits, calls -/
abbrev BK : Type := (Nat → Int32) × (Nat → Int32) × (Nat → Int32) × (Nat → Int32) × Int32 × Int32 × Int32
def bkW (h a0 a1 a2 a3 a4 a5 : Nat) (cI : ClassId) (fi la : Nat → Int32) (B : BK) : va_W :=
  [(h, .inr (0, [.ref a0, .ref a1, .ref a2, .ref a3, .ref a4, .ref a5, .int B.2.2.2.2.1, .int B.2.2.2.2.2.1, .int B.2.2.2.2.2.2])), (a0, .inl (cI, 128, .inl fi)), (a1, .inl (cI, 128, .inl la)), (a2, .inl (cI, 128, .inl B.1)), (a3, .inl (cI, 128, .inl B.2.1)), (a4, .inl (cI, 128, .inl B.2.2.1)), (a5, .inl (cI, 128, .inl B.2.2.2.1))]
abbrev bHp (fi la : Nat → Int32) (e : Nat) : Prop := ¬ 64 ≤ nI e ∧ ¬ la e ≤ fi e
abbrev bAp (fi la : Nat → Int32) (e : Nat) (a b : Int32) : Prop := la e < a ∨ ¬ fi e ≤ b
abbrev bWi (fi la : Nat → Int32) (e : Nat) (a b : Int32) : Prop := ¬ fi e < a ∧ ¬ b < la e
abbrev bLag (B : BK) (e : Nat) : Prop := ¬ B.1 e ≤ B.1 (e / 2)
theorem bHp_lt {fi la : Nat → Int32} {e : Nat} (he : e < 128) (h : bHp fi la e) : e < 64 := by
  rcases Nat.lt_or_ge e 64 with q | q
  · exact q
  · exact absurd (nI_le q (by omega)) h.1
theorem pw_1 {e d : Nat} (h : 128 ≤ e * 2 ^ (d + 1)) : 128 ≤ 2 * e * 2 ^ d := by
  rw [Nat.pow_succ] at h
  calc 128 ≤ e * (2 ^ d * 2) := h
    _ = 2 * e * 2 ^ d := by rw [Nat.mul_comm (2 ^ d) 2, ← Nat.mul_assoc, Nat.mul_comm e 2]
theorem pw_2 {e d : Nat} (h : 128 ≤ e * 2 ^ (d + 1)) : 128 ≤ (2 * e + 1) * 2 ^ d := Nat.le_trans (pw_1 h) (Nat.mul_le_mul_right _ (Nat.le_succ _))
def bPress (B : BK) (e : Nat) (c : Int32) : BK := (upd B.1 e c, B.2.1, B.2.2.1, upd B.2.2.2.1 e (B.2.2.2.1 e - (B.1 e - c) * B.2.2.1 e), B.2.2.2.2)
def bCatch (B : BK) (e : Nat) : BK := if bLag B e then bPress B e (B.1 (e / 2)) else B
def bCatch2 (B : BK) (e : Nat) : BK := bCatch (bCatch B (2 * e)) (2 * e + 1)
def bMax (x y : Int32) : Int32 := if x < y then y else x
def bMin (x y : Int32) : Int32 := if y < x then y else x
def bMany (g m : Nat → Int32) (e : Nat) (top : Int32) : Int32 := if g e = top then m e else 0
def bLess (g s : Nat → Int32) (top : Int32) (e : Nat) : Int32 := if top ≤ g e then s e else g e
def bTop (B : BK) (e : Nat) : Int32 := bMax (B.1 (2 * e)) (B.1 (2 * e + 1))
def bTell (B : BK) (e : Nat) : BK :=
  (upd B.1 e (bTop B e),
   upd B.2.1 e (bMax (bLess (upd B.1 e (bTop B e)) B.2.1 (bTop B e) (2 * e)) (bLess (upd B.1 e (bTop B e)) B.2.1 (bTop B e) (2 * e + 1))),
   upd B.2.2.1 e (bMany (upd B.1 e (bTop B e)) B.2.2.1 (2 * e) (bTop B e) + bMany (upd B.1 e (bTop B e)) B.2.2.1 (2 * e + 1) (bTop B e)),
   upd B.2.2.2.1 e (B.2.2.2.1 (2 * e) + B.2.2.2.1 (2 * e + 1)), B.2.2.2.2)
def bVisit (B : BK) : BK := (B.1, B.2.1, B.2.2.1, B.2.2.2.1, B.2.2.2.2.1 + 1, B.2.2.2.2.2.1 + 1, B.2.2.2.2.2.2)
def bBegin (B : BK) : BK := (B.1, B.2.1, B.2.2.1, B.2.2.2.1, 0, B.2.2.2.2.2.1, B.2.2.2.2.2.2 + 1)
def bPressFrom (fi la : Nat → Int32) (a b c : Int32) : Nat → BK → Nat → BK
  | 0, B, _ => B
  | d + 1, B, e =>
    if bAp fi la e a b ∨ ¬ c < (bVisit B).1 e then bVisit B
    else if (bWi fi la e a b ∧ ¬ c ≤ (bVisit B).2.1 e) ∨ ¬ bHp fi la e then bPress (bVisit B) e c
    else bTell (bPressFrom fi la a b c d (bPressFrom fi la a b c d (bCatch2 (bVisit B) e) (2 * e)) (2 * e + 1)) e
def bKid (la : Nat → Int32) (x : Int32) (e : Nat) : Nat := if x ≤ la (2 * e) then 2 * e else 2 * e + 1
def bSet (B : BK) (e : Nat) (v : Int32) : BK := (upd B.1 e v, B.2.1, B.2.2.1, upd B.2.2.2.1 e v, B.2.2.2.2)
def bRaiseFrom (fi la : Nat → Int32) (x v : Int32) : Nat → BK → Nat → BK
  | 0, B, _ => B
  | d + 1, B, e =>
    if bHp fi la e then bTell (bRaiseFrom fi la x v d (bCatch2 (bVisit B) e) (bKid la x e)) e else bSet (bVisit B) e v
def bSumFrom (fi la : Nat → Int32) (a b : Int32) : Nat → BK → Nat → Int32 × BK
  | 0, B, _ => (0, B)
  | d + 1, B, e =>
    if bAp fi la e a b then (0, bVisit B)
    else if bWi fi la e a b ∨ ¬ bHp fi la e then ((bVisit B).2.2.2.1 e, bVisit B)
    else ((bSumFrom fi la a b d (bCatch2 (bVisit B) e) (2 * e)).1 + (bSumFrom fi la a b d (bSumFrom fi la a b d (bCatch2 (bVisit B) e) (2 * e)).2 (2 * e + 1)).1, (bSumFrom fi la a b d (bSumFrom fi la a b d (bCatch2 (bVisit B) e) (2 * e)).2 (2 * e + 1)).2)
def bTopFrom (fi la : Nat → Int32) (a b : Int32) : Nat → BK → Nat → Int32 × BK
  | 0, B, _ => (0, B)
  | d + 1, B, e =>
    if bAp fi la e a b then (-1, bVisit B)
    else if bWi fi la e a b ∨ ¬ bHp fi la e then ((bVisit B).1 e, bVisit B)
    else (bMax (bTopFrom fi la a b d (bCatch2 (bVisit B) e) (2 * e)).1 (bTopFrom fi la a b d (bTopFrom fi la a b d (bCatch2 (bVisit B) e) (2 * e)).2 (2 * e + 1)).1, (bTopFrom fi la a b d (bTopFrom fi la a b d (bCatch2 (bVisit B) e) (2 * e)).2 (2 * e + 1)).2)
end
section
/-- there is such an entry: as the class tests it, of any number -/
abbrev bHas (la : Nat → Int32) (x : Int32) : Prop := ¬ x < 1 ∧ ¬ 128 ≤ x ∧ ¬ la x.toNatClampNeg = -1
theorem bHas_in {x : Int32} (c1 : ¬ x < 1) (c2 : ¬ 128 ≤ x) : vp_in x 128 := by
  rw [vp_in_iff]
  have h1 : ¬ x.toInt < (1 : Int32).toInt := fun h => c1 (Int32.lt_iff_toInt_lt.mpr h)
  have h2 : ¬ (128 : Int32).toInt ≤ x.toInt := fun h => c2 (Int32.le_iff_toInt_le.mpr h)
  have e1 : (1 : Int32).toInt = 1 := rfl
  have e2 : (128 : Int32).toInt = 128 := rfl
  omega
def bLeast (fi la g : Nat → Int32) (x : Int32) : Nat → Int32
  | 0 => g 1
  | n + 1 => if bHas la (nI (n + 2)) ∧ ¬ bAp fi la (n + 2) x x then bMin (bLeast fi la g x n) (g (n + 2)) else bLeast fi la g x n
theorem bLeast_s (fi la g : Nat → Int32) (x : Int32) {kk : Nat} (h : 2 ≤ kk) : bLeast fi la g x (kk + 1 - 2) = if bHas la (nI kk) ∧ ¬ bAp fi la kk x x then bMin (bLeast fi la g x (kk - 2)) (g kk) else bLeast fi la g x (kk - 2) := by
  obtain ⟨j, rfl⟩ : ∃ j, kk = j + 2 := ⟨kk - 2, by omega⟩
  rw [show j + 2 + 1 - 2 = j + 1 by omega, show j + 2 - 2 = j by omega]
  rfl
def bLags (la : Nat → Int32) (B : BK) : Nat → Int32
  | 0 => 0
  | n + 1 => if bHas la (nI (n + 2)) ∧ bLag B (n + 2) then bLags la B n + 1 else bLags la B n
theorem bLags_s (la : Nat → Int32) (B : BK) {kk : Nat} (h : 2 ≤ kk) : bLags la B (kk + 1 - 2) = if bHas la (nI kk) ∧ bLag B kk then bLags la B (kk - 2) + 1 else bLags la B (kk - 2) := by
  obtain ⟨j, rfl⟩ : ∃ j, kk = j + 2 := ⟨kk - 2, by omega⟩
  rw [show j + 2 + 1 - 2 = j + 1 by omega, show j + 2 - 2 = j by omega]
  rfl
def sSplit (fi la : Nat → Int32) (e : Nat) : (Nat → Int32) × (Nat → Int32) :=
  if bHp fi la e then (upd (upd fi (2 * e) (fi e)) (2 * e + 1) ((fi e + la e) / 2 + 1), upd (upd la (2 * e) ((fi e + la e) / 2)) (2 * e + 1) ((upd la (2 * e) ((fi e + la e) / 2)) e))
  else (upd (upd fi (2 * e) 0) (2 * e + 1) 0, upd (upd la (2 * e) (-1)) (2 * e + 1) (-1))
def sIter (S : (Nat → Int32) × (Nat → Int32)) : Nat → (Nat → Int32) × (Nat → Int32)
  | 0 => S
  | k + 1 => sSplit (sIter S k).1 (sIter S k).2 (k + 1)
theorem sIter_s {S : (Nat → Int32) × (Nat → Int32)} {kk : Nat} (h : 1 ≤ kk) : sSplit (sIter S (kk - 1)).1 (sIter S (kk - 1)).2 kk = sIter S (kk + 1 - 1) := by
  obtain ⟨j, rfl⟩ : ∃ j, kk = j + 1 := ⟨kk - 1, by omega⟩
  rw [show j + 1 + 1 - 1 = j + 1 by omega, show j + 1 - 1 = j by omega]
  rfl
def bFill (fi la : Nat → Int32) (v0 : Int32) (B : BK) : Nat → BK
  | 0 => B
  | k + 1 => (upd (bFill fi la v0 B k).1 (k + 1) v0, upd (bFill fi la v0 B k).2.1 (k + 1) (-1), upd (bFill fi la v0 B k).2.2.1 (k + 1) (la (k + 1) - fi (k + 1) + 1), upd (bFill fi la v0 B k).2.2.2.1 (k + 1) ((la (k + 1) - fi (k + 1) + 1) * v0), (bFill fi la v0 B k).2.2.2.2)
theorem bFill_s (fi la : Nat → Int32) (v0 : Int32) (B : BK) {kk : Nat} (h : 1 ≤ kk) : bFill fi la v0 B (kk + 1 - 1) = (upd (bFill fi la v0 B (kk - 1)).1 kk v0, upd (bFill fi la v0 B (kk - 1)).2.1 kk (-1), upd (bFill fi la v0 B (kk - 1)).2.2.1 kk (la kk - fi kk + 1), upd (bFill fi la v0 B (kk - 1)).2.2.2.1 kk ((la kk - fi kk + 1) * v0), (bFill fi la v0 B (kk - 1)).2.2.2.2) := by
  obtain ⟨j, rfl⟩ : ∃ j, kk = j + 1 := ⟨kk - 1, by omega⟩
  rw [show j + 1 + 1 - 1 = j + 1 by omega, show j + 1 - 1 = j by omega]
  rfl
def bNew (X : (Nat → Int32) × (Nat → Int32)) (v0 : Int32) (B : BK) : BK := ((bFill X.1 X.2 v0 B 127).1, (bFill X.1 X.2 v0 B 127).2.1, (bFill X.1 X.2 v0 B 127).2.2.1, (bFill X.1 X.2 v0 B 127).2.2.2.1, 0, 0, 0)
end
section
set_option maxHeartbeats 4000000 in
set_option maxRecDepth 100000 in
/-- has an entry two below it -/
theorem mX0_hasParts (l : Launch) (D : va_G) (cI : ClassId) (h a0 a1 a2 a3 a4 a5 : Nat) (fi la : Nat → Int32) (B : BK) (e : Nat) (he : e < 128) : pq_M l yX0_hasParts wsX0_hasParts 0 0 0 0 D [(cI, .int)] pq_0 (bkW h a0 a1 a2 a3 a4 a5 cI fi la B) [.ref h, .int (nI e)] (fun v w1 => v = some (.int (if bHp fi la e then 1 else 0)) ∧ w1 = bkW h a0 a1 a2 a3 a4 a5 cI fi la B) := by
  refine pq_enter (cc := cX0_hasParts) (maxL := 2) (ret := (some .boolean)) (by decide) rfl (Nat.le_of_ble_eq_true rfl) ?_
  intro p ev s m args below meth cd A ls Q H locs hx hb hr hml hts hown hlocks hnm hK hP hD hS hA hE hl hQ
  have hl : lv_has ls 2 [(0, .ref h), (1, .int (nI e))] := hl
  have hP : va_P D vwCl [(h, .inr (0, [.ref a0, .ref a1, .ref a2, .ref a3, .ref a4, .ref a5, .int B.2.2.2.2.1, .int B.2.2.2.2.2.1, .int B.2.2.2.2.2.2])), (a0, .inl (cI, 128, .inl fi)), (a1, .inl (cI, 128, .inl la)), (a2, .inl (cI, 128, .inl B.1)), (a3, .inl (cI, 128, .inl B.2.1)), (a4, .inl (cI, 128, .inl B.2.2.1)), (a5, .inl (cI, 128, .inl B.2.2.2.1))] H := hP
  have hD : va_D A [(h, .inr (0, [.ref a0, .ref a1, .ref a2, .ref a3, .ref a4, .ref a5, .int B.2.2.2.2.1, .int B.2.2.2.2.2.1, .int B.2.2.2.2.2.2])), (a0, .inl (cI, 128, .inl fi)), (a1, .inl (cI, 128, .inl la)), (a2, .inl (cI, 128, .inl B.1)), (a3, .inl (cI, 128, .inl B.2.1)), (a4, .inl (cI, 128, .inl B.2.2.1)), (a5, .inl (cI, 128, .inl B.2.2.2.1))] := hD
  have hin_X0 : ∀ w ∈ wsX00, w ∈ wsX0_hasParts := by decide +kernel
  have hf_PressedPlains_Book_11 := hts (.fieldLink RX0 11 "PressedPlains$Book" "first" "[I") (by decide +kernel)
  have hf_PressedPlains_Book_15 := hts (.fieldLink RX0 15 "PressedPlains$Book" "last" "[I") (by decide +kernel)
  refine lv_iload_n hx hb dX0_hasParts_0 rfl (lv_at hl 1 rfl) ?_
  refine lv_bipush (v := 64) hx hb dX0_hasParts_1 (by decide) ?_
  refine lv_icmp_ge (tgt := 25) hx hb dX0_hasParts_3 (by decide) (fun c_1 => ?_) (fun c_1 => ?_)
  · refine lv_iconst (v := 0) hx hb dX0_hasParts_25 (by decide) ?_
    exact pq_zret hQ hx hb hr hlocks hK hS hP hD dX0_hasParts_26 (by omega) (by omega) (by decide) (⟨by rw [if_neg (show ¬ (bHp fi la e) from fun h => h.1 c_1)], rfl⟩)
  · refine lv_aload_n hx hb dX0_hasParts_6 rfl (lv_at hl 0 rfl) ?_
    refine va_get (D := D) (ci := 0) (v := .ref a0) (C := RX0) (T := TX0) (N := 9) hx hb hts hin_X0 hown hK hP 0 rfl rfl 0 (by decide) hf_PressedPlains_Book_11 (fun _ h9 => h9) rfl dX0_hasParts_7 ?_
    refine lv_iload_n hx hb dX0_hasParts_10 rfl (lv_at hl 1 rfl) ?_
    refine pq_iald hx hb hK hP 1 0 rfl rfl e (by omega) (by decide) dX0_hasParts_11 ?_
    refine lv_aload_n hx hb dX0_hasParts_12 rfl (lv_at hl 0 rfl) ?_
    refine va_get (D := D) (ci := 0) (v := .ref a1) (C := RX0) (T := TX0) (N := 9) hx hb hts hin_X0 hown hK hP 0 rfl rfl 1 (by decide) hf_PressedPlains_Book_15 (fun _ h9 => h9) rfl dX0_hasParts_13 ?_
    refine lv_iload_n hx hb dX0_hasParts_16 rfl (lv_at hl 1 rfl) ?_
    refine pq_iald hx hb hK hP 2 0 rfl rfl e (by omega) (by decide) dX0_hasParts_17 ?_
    refine lv_icmp_ge (tgt := 25) hx hb dX0_hasParts_18 (by decide) (fun c_2 => ?_) (fun c_2 => ?_)
    · refine lv_iconst (v := 0) hx hb dX0_hasParts_25 (by decide) ?_
      exact pq_zret hQ hx hb hr hlocks hK hS hP hD dX0_hasParts_26 (by omega) (by omega) (by decide) (⟨by rw [if_neg (show ¬ (bHp fi la e) from fun h => h.2 c_2)], rfl⟩)
    · refine lv_iconst (v := 1) hx hb dX0_hasParts_21 (by decide) ?_
      refine lv_goto (tgt := 26) hx hb dX0_hasParts_22 (by decide) ?_
      exact pq_zret hQ hx hb hr hlocks hK hS hP hD dX0_hasParts_26 (by omega) (by omega) (by decide) (⟨by rw [if_pos (show bHp fi la e from ⟨c_1, c_2⟩)], rfl⟩)

set_option maxHeartbeats 4000000 in
set_option maxRecDepth 100000 in
theorem mX0_isApart (l : Launch) (D : va_G) (cI : ClassId) (h a0 a1 a2 a3 a4 a5 : Nat) (fi la : Nat → Int32) (B : BK) (e : Nat) (a b : Int32) (he : e < 128) : pq_M l yX0_isApart wsX0_isApart 0 0 0 0 D [(cI, .int)] pq_0 (bkW h a0 a1 a2 a3 a4 a5 cI fi la B) [.ref h, .int (nI e), .int a, .int b] (fun v w1 => v = some (.int (if bAp fi la e a b then 1 else 0)) ∧ w1 = bkW h a0 a1 a2 a3 a4 a5 cI fi la B) := by
  refine pq_enter (cc := cX0_isApart) (maxL := 4) (ret := (some .boolean)) (by decide) rfl (Nat.le_of_ble_eq_true rfl) ?_
  intro p ev s m args below meth cd A ls Q H locs hx hb hr hml hts hown hlocks hnm hK hP hD hS hA hE hl hQ
  have hl : lv_has ls 4 [(0, .ref h), (1, .int (nI e)), (2, .int a), (3, .int b)] := hl
  have hP : va_P D vwCl [(h, .inr (0, [.ref a0, .ref a1, .ref a2, .ref a3, .ref a4, .ref a5, .int B.2.2.2.2.1, .int B.2.2.2.2.2.1, .int B.2.2.2.2.2.2])), (a0, .inl (cI, 128, .inl fi)), (a1, .inl (cI, 128, .inl la)), (a2, .inl (cI, 128, .inl B.1)), (a3, .inl (cI, 128, .inl B.2.1)), (a4, .inl (cI, 128, .inl B.2.2.1)), (a5, .inl (cI, 128, .inl B.2.2.2.1))] H := hP
  have hD : va_D A [(h, .inr (0, [.ref a0, .ref a1, .ref a2, .ref a3, .ref a4, .ref a5, .int B.2.2.2.2.1, .int B.2.2.2.2.2.1, .int B.2.2.2.2.2.2])), (a0, .inl (cI, 128, .inl fi)), (a1, .inl (cI, 128, .inl la)), (a2, .inl (cI, 128, .inl B.1)), (a3, .inl (cI, 128, .inl B.2.1)), (a4, .inl (cI, 128, .inl B.2.2.1)), (a5, .inl (cI, 128, .inl B.2.2.2.1))] := hD
  have hin_X0 : ∀ w ∈ wsX00, w ∈ wsX0_isApart := by decide +kernel
  have hf_PressedPlains_Book_15 := hts (.fieldLink RX0 15 "PressedPlains$Book" "last" "[I") (by decide +kernel)
  have hf_PressedPlains_Book_11 := hts (.fieldLink RX0 11 "PressedPlains$Book" "first" "[I") (by decide +kernel)
  refine lv_aload_n hx hb dX0_isApart_0 rfl (lv_at hl 0 rfl) ?_
  refine va_get (D := D) (ci := 0) (v := .ref a1) (C := RX0) (T := TX0) (N := 9) hx hb hts hin_X0 hown hK hP 0 rfl rfl 1 (by decide) hf_PressedPlains_Book_15 (fun _ h9 => h9) rfl dX0_isApart_1 ?_
  refine lv_iload_n hx hb dX0_isApart_4 rfl (lv_at hl 1 rfl) ?_
  refine pq_iald hx hb hK hP 2 0 rfl rfl e (by omega) (by decide) dX0_isApart_5 ?_
  refine lv_iload_n hx hb dX0_isApart_6 rfl (lv_at hl 2 rfl) ?_
  refine lv_icmp_lt (tgt := 20) hx hb dX0_isApart_7 (by decide) (fun c_1 => ?_) (fun c_1 => ?_)
  · refine lv_iconst (v := 1) hx hb dX0_isApart_20 (by decide) ?_
    refine lv_goto (tgt := 25) hx hb dX0_isApart_21 (by decide) ?_
    exact pq_zret hQ hx hb hr hlocks hK hS hP hD dX0_isApart_25 (by omega) (by omega) (by decide) (⟨by rw [if_pos (show bAp fi la e a b from Or.inl c_1)], rfl⟩)
  · refine lv_aload_n hx hb dX0_isApart_10 rfl (lv_at hl 0 rfl) ?_
    refine va_get (D := D) (ci := 0) (v := .ref a0) (C := RX0) (T := TX0) (N := 9) hx hb hts hin_X0 hown hK hP 0 rfl rfl 0 (by decide) hf_PressedPlains_Book_11 (fun _ h9 => h9) rfl dX0_isApart_11 ?_
    refine lv_iload_n hx hb dX0_isApart_14 rfl (lv_at hl 1 rfl) ?_
    refine pq_iald hx hb hK hP 1 0 rfl rfl e (by omega) (by decide) dX0_isApart_15 ?_
    refine lv_iload_n hx hb dX0_isApart_16 rfl (lv_at hl 3 rfl) ?_
    refine lv_icmp_le (tgt := 24) hx hb dX0_isApart_17 (by decide) (fun c_2 => ?_) (fun c_2 => ?_)
    · refine lv_iconst (v := 0) hx hb dX0_isApart_24 (by decide) ?_
      exact pq_zret hQ hx hb hr hlocks hK hS hP hD dX0_isApart_25 (by omega) (by omega) (by decide) (⟨by rw [if_neg (show ¬ (bAp fi la e a b) from fun h => h.elim c_1 (fun h => h c_2))], rfl⟩)
    · refine lv_iconst (v := 1) hx hb dX0_isApart_20 (by decide) ?_
      refine lv_goto (tgt := 25) hx hb dX0_isApart_21 (by decide) ?_
      exact pq_zret hQ hx hb hr hlocks hK hS hP hD dX0_isApart_25 (by omega) (by omega) (by decide) (⟨by rw [if_pos (show bAp fi la e a b from Or.inr c_2)], rfl⟩)

set_option maxHeartbeats 4000000 in
set_option maxRecDepth 100000 in
theorem mX0_isWithin (l : Launch) (D : va_G) (cI : ClassId) (h a0 a1 a2 a3 a4 a5 : Nat) (fi la : Nat → Int32) (B : BK) (e : Nat) (a b : Int32) (he : e < 128) : pq_M l yX0_isWithin wsX0_isWithin 0 0 0 0 D [(cI, .int)] pq_0 (bkW h a0 a1 a2 a3 a4 a5 cI fi la B) [.ref h, .int (nI e), .int a, .int b] (fun v w1 => v = some (.int (if bWi fi la e a b then 1 else 0)) ∧ w1 = bkW h a0 a1 a2 a3 a4 a5 cI fi la B) := by
  refine pq_enter (cc := cX0_isWithin) (maxL := 4) (ret := (some .boolean)) (by decide) rfl (Nat.le_of_ble_eq_true rfl) ?_
  intro p ev s m args below meth cd A ls Q H locs hx hb hr hml hts hown hlocks hnm hK hP hD hS hA hE hl hQ
  have hl : lv_has ls 4 [(0, .ref h), (1, .int (nI e)), (2, .int a), (3, .int b)] := hl
  have hP : va_P D vwCl [(h, .inr (0, [.ref a0, .ref a1, .ref a2, .ref a3, .ref a4, .ref a5, .int B.2.2.2.2.1, .int B.2.2.2.2.2.1, .int B.2.2.2.2.2.2])), (a0, .inl (cI, 128, .inl fi)), (a1, .inl (cI, 128, .inl la)), (a2, .inl (cI, 128, .inl B.1)), (a3, .inl (cI, 128, .inl B.2.1)), (a4, .inl (cI, 128, .inl B.2.2.1)), (a5, .inl (cI, 128, .inl B.2.2.2.1))] H := hP
  have hD : va_D A [(h, .inr (0, [.ref a0, .ref a1, .ref a2, .ref a3, .ref a4, .ref a5, .int B.2.2.2.2.1, .int B.2.2.2.2.2.1, .int B.2.2.2.2.2.2])), (a0, .inl (cI, 128, .inl fi)), (a1, .inl (cI, 128, .inl la)), (a2, .inl (cI, 128, .inl B.1)), (a3, .inl (cI, 128, .inl B.2.1)), (a4, .inl (cI, 128, .inl B.2.2.1)), (a5, .inl (cI, 128, .inl B.2.2.2.1))] := hD
  have hin_X0 : ∀ w ∈ wsX00, w ∈ wsX0_isWithin := by decide +kernel
  have hf_PressedPlains_Book_11 := hts (.fieldLink RX0 11 "PressedPlains$Book" "first" "[I") (by decide +kernel)
  have hf_PressedPlains_Book_15 := hts (.fieldLink RX0 15 "PressedPlains$Book" "last" "[I") (by decide +kernel)
  refine lv_iload_n hx hb dX0_isWithin_0 rfl (lv_at hl 2 rfl) ?_
  refine lv_aload_n hx hb dX0_isWithin_1 rfl (lv_at hl 0 rfl) ?_
  refine va_get (D := D) (ci := 0) (v := .ref a0) (C := RX0) (T := TX0) (N := 9) hx hb hts hin_X0 hown hK hP 0 rfl rfl 0 (by decide) hf_PressedPlains_Book_11 (fun _ h9 => h9) rfl dX0_isWithin_2 ?_
  refine lv_iload_n hx hb dX0_isWithin_5 rfl (lv_at hl 1 rfl) ?_
  refine pq_iald hx hb hK hP 1 0 rfl rfl e (by omega) (by decide) dX0_isWithin_6 ?_
  refine lv_icmp_gt (tgt := 24) hx hb dX0_isWithin_7 (by decide) (fun c_1 => ?_) (fun c_1 => ?_)
  · refine lv_iconst (v := 0) hx hb dX0_isWithin_24 (by decide) ?_
    exact pq_zret hQ hx hb hr hlocks hK hS hP hD dX0_isWithin_25 (by omega) (by omega) (by decide) (⟨by rw [if_neg (show ¬ (bWi fi la e a b) from fun h => h.1 c_1)], rfl⟩)
  · refine lv_aload_n hx hb dX0_isWithin_10 rfl (lv_at hl 0 rfl) ?_
    refine va_get (D := D) (ci := 0) (v := .ref a1) (C := RX0) (T := TX0) (N := 9) hx hb hts hin_X0 hown hK hP 0 rfl rfl 1 (by decide) hf_PressedPlains_Book_15 (fun _ h9 => h9) rfl dX0_isWithin_11 ?_
    refine lv_iload_n hx hb dX0_isWithin_14 rfl (lv_at hl 1 rfl) ?_
    refine pq_iald hx hb hK hP 2 0 rfl rfl e (by omega) (by decide) dX0_isWithin_15 ?_
    refine lv_iload_n hx hb dX0_isWithin_16 rfl (lv_at hl 3 rfl) ?_
    refine lv_icmp_gt (tgt := 24) hx hb dX0_isWithin_17 (by decide) (fun c_2 => ?_) (fun c_2 => ?_)
    · refine lv_iconst (v := 0) hx hb dX0_isWithin_24 (by decide) ?_
      exact pq_zret hQ hx hb hr hlocks hK hS hP hD dX0_isWithin_25 (by omega) (by omega) (by decide) (⟨by rw [if_neg (show ¬ (bWi fi la e a b) from fun h => h.2 c_2)], rfl⟩)
    · refine lv_iconst (v := 1) hx hb dX0_isWithin_20 (by decide) ?_
      refine lv_goto (tgt := 25) hx hb dX0_isWithin_21 (by decide) ?_
      exact pq_zret hQ hx hb hr hlocks hK hS hP hD dX0_isWithin_25 (by omega) (by omega) (by decide) (⟨by rw [if_pos (show bWi fi la e a b from ⟨c_1, c_2⟩)], rfl⟩)

set_option maxHeartbeats 4000000 in
set_option maxRecDepth 100000 in
theorem mX0_lags (l : Launch) (D : va_G) (cI : ClassId) (h a0 a1 a2 a3 a4 a5 : Nat) (fi la : Nat → Int32) (B : BK) (e : Nat) (he : e < 128) : pq_M l yX0_lags wsX0_lags 0 0 0 0 D [(cI, .int)] pq_0 (bkW h a0 a1 a2 a3 a4 a5 cI fi la B) [.ref h, .int (nI e)] (fun v w1 => v = some (.int (if bLag B e then 1 else 0)) ∧ w1 = bkW h a0 a1 a2 a3 a4 a5 cI fi la B) := by
  refine pq_enter (cc := cX0_lags) (maxL := 2) (ret := (some .boolean)) (by decide) rfl (Nat.le_of_ble_eq_true rfl) ?_
  intro p ev s m args below meth cd A ls Q H locs hx hb hr hml hts hown hlocks hnm hK hP hD hS hA hE hl hQ
  have hl : lv_has ls 2 [(0, .ref h), (1, .int (nI e))] := hl
  have hP : va_P D vwCl [(h, .inr (0, [.ref a0, .ref a1, .ref a2, .ref a3, .ref a4, .ref a5, .int B.2.2.2.2.1, .int B.2.2.2.2.2.1, .int B.2.2.2.2.2.2])), (a0, .inl (cI, 128, .inl fi)), (a1, .inl (cI, 128, .inl la)), (a2, .inl (cI, 128, .inl B.1)), (a3, .inl (cI, 128, .inl B.2.1)), (a4, .inl (cI, 128, .inl B.2.2.1)), (a5, .inl (cI, 128, .inl B.2.2.2.1))] H := hP
  have hD : va_D A [(h, .inr (0, [.ref a0, .ref a1, .ref a2, .ref a3, .ref a4, .ref a5, .int B.2.2.2.2.1, .int B.2.2.2.2.2.1, .int B.2.2.2.2.2.2])), (a0, .inl (cI, 128, .inl fi)), (a1, .inl (cI, 128, .inl la)), (a2, .inl (cI, 128, .inl B.1)), (a3, .inl (cI, 128, .inl B.2.1)), (a4, .inl (cI, 128, .inl B.2.2.1)), (a5, .inl (cI, 128, .inl B.2.2.2.1))] := hD
  have hin_X0 : ∀ w ∈ wsX00, w ∈ wsX0_lags := by decide +kernel
  have hf_PressedPlains_Book_18 := hts (.fieldLink RX0 18 "PressedPlains$Book" "greatest" "[I") (by decide +kernel)
  refine lv_aload_n hx hb dX0_lags_0 rfl (lv_at hl 0 rfl) ?_
  refine va_get (D := D) (ci := 0) (v := .ref a2) (C := RX0) (T := TX0) (N := 9) hx hb hts hin_X0 hown hK hP 0 rfl rfl 2 (by decide) hf_PressedPlains_Book_18 (fun _ h9 => h9) rfl dX0_lags_1 ?_
  refine lv_iload_n hx hb dX0_lags_4 rfl (lv_at hl 1 rfl) ?_
  refine pq_iald hx hb hK hP 3 0 rfl rfl e (by omega) (by decide) dX0_lags_5 ?_
  refine lv_aload_n hx hb dX0_lags_6 rfl (lv_at hl 0 rfl) ?_
  refine va_get (D := D) (ci := 0) (v := .ref a2) (C := RX0) (T := TX0) (N := 9) hx hb hts hin_X0 hown hK hP 0 rfl rfl 2 (by decide) hf_PressedPlains_Book_18 (fun _ h9 => h9) rfl dX0_lags_7 ?_
  refine lv_iload_n hx hb dX0_lags_10 rfl (lv_at hl 1 rfl) ?_
  refine lv_iconst (v := 2) hx hb dX0_lags_11 (by decide) ?_
  refine lv_idiv hx hb dX0_lags_12 (by decide) ?_
  refine pq_top (nI (e / 2)) (pk_div (d := 2) (by omega) (by decide) (by decide)) ?_
  refine pq_iald hx hb hK hP 3 0 rfl rfl (e / 2) (by omega) (by decide) dX0_lags_13 ?_
  refine lv_icmp_le (tgt := 21) hx hb dX0_lags_14 (by decide) (fun c_1 => ?_) (fun c_1 => ?_)
  · refine lv_iconst (v := 0) hx hb dX0_lags_21 (by decide) ?_
    exact pq_zret hQ hx hb hr hlocks hK hS hP hD dX0_lags_22 (by omega) (by omega) (by decide) (⟨by rw [if_neg (show ¬ (bLag B e) from fun h => h c_1)], rfl⟩)
  · refine lv_iconst (v := 1) hx hb dX0_lags_17 (by decide) ?_
    refine lv_goto (tgt := 22) hx hb dX0_lags_18 (by decide) ?_
    exact pq_zret hQ hx hb hr hlocks hK hS hP hD dX0_lags_22 (by omega) (by omega) (by decide) (⟨by rw [if_pos (show bLag B e from c_1)], rfl⟩)

set_option maxHeartbeats 4000000 in
set_option maxRecDepth 100000 in
theorem mX0_manyAt (l : Launch) (D : va_G) (cI : ClassId) (h a0 a1 a2 a3 a4 a5 : Nat) (fi la : Nat → Int32) (B : BK) (e : Nat) (t : Int32) (he : e < 128) : pq_M l yX0_manyAt wsX0_manyAt 0 0 0 0 D [(cI, .int)] pq_0 (bkW h a0 a1 a2 a3 a4 a5 cI fi la B) [.ref h, .int (nI e), .int t] (fun v w1 => v = some (.int (bMany B.1 B.2.2.1 e t)) ∧ w1 = bkW h a0 a1 a2 a3 a4 a5 cI fi la B) := by
  refine pq_enter (cc := cX0_manyAt) (maxL := 3) (ret := (some .int)) (by decide) rfl (Nat.le_of_ble_eq_true rfl) ?_
  intro p ev s m args below meth cd A ls Q H locs hx hb hr hml hts hown hlocks hnm hK hP hD hS hA hE hl hQ
  have hl : lv_has ls 3 [(0, .ref h), (1, .int (nI e)), (2, .int t)] := hl
  have hP : va_P D vwCl [(h, .inr (0, [.ref a0, .ref a1, .ref a2, .ref a3, .ref a4, .ref a5, .int B.2.2.2.2.1, .int B.2.2.2.2.2.1, .int B.2.2.2.2.2.2])), (a0, .inl (cI, 128, .inl fi)), (a1, .inl (cI, 128, .inl la)), (a2, .inl (cI, 128, .inl B.1)), (a3, .inl (cI, 128, .inl B.2.1)), (a4, .inl (cI, 128, .inl B.2.2.1)), (a5, .inl (cI, 128, .inl B.2.2.2.1))] H := hP
  have hD : va_D A [(h, .inr (0, [.ref a0, .ref a1, .ref a2, .ref a3, .ref a4, .ref a5, .int B.2.2.2.2.1, .int B.2.2.2.2.2.1, .int B.2.2.2.2.2.2])), (a0, .inl (cI, 128, .inl fi)), (a1, .inl (cI, 128, .inl la)), (a2, .inl (cI, 128, .inl B.1)), (a3, .inl (cI, 128, .inl B.2.1)), (a4, .inl (cI, 128, .inl B.2.2.1)), (a5, .inl (cI, 128, .inl B.2.2.2.1))] := hD
  have hin_X0 : ∀ w ∈ wsX00, w ∈ wsX0_manyAt := by decide +kernel
  have hf_PressedPlains_Book_18 := hts (.fieldLink RX0 18 "PressedPlains$Book" "greatest" "[I") (by decide +kernel)
  have hf_PressedPlains_Book_24 := hts (.fieldLink RX0 24 "PressedPlains$Book" "many" "[I") (by decide +kernel)
  refine lv_aload_n hx hb dX0_manyAt_0 rfl (lv_at hl 0 rfl) ?_
  refine va_get (D := D) (ci := 0) (v := .ref a2) (C := RX0) (T := TX0) (N := 9) hx hb hts hin_X0 hown hK hP 0 rfl rfl 2 (by decide) hf_PressedPlains_Book_18 (fun _ h9 => h9) rfl dX0_manyAt_1 ?_
  refine lv_iload_n hx hb dX0_manyAt_4 rfl (lv_at hl 1 rfl) ?_
  refine pq_iald hx hb hK hP 3 0 rfl rfl e (by omega) (by decide) dX0_manyAt_5 ?_
  refine lv_iload_n hx hb dX0_manyAt_6 rfl (lv_at hl 2 rfl) ?_
  refine lv_icmp_ne (tgt := 19) hx hb dX0_manyAt_7 (by decide) (fun c_1 => ?_) (fun c_1 => ?_)
  · refine lv_iconst (v := 0) hx hb dX0_manyAt_19 (by decide) ?_
    exact pq_iret hQ hx hb hr hlocks hK hS hP hD dX0_manyAt_20 (by omega) (by omega) (⟨by unfold bMany; rw [if_neg c_1], rfl⟩)
  · refine lv_aload_n hx hb dX0_manyAt_10 rfl (lv_at hl 0 rfl) ?_
    refine va_get (D := D) (ci := 0) (v := .ref a4) (C := RX0) (T := TX0) (N := 9) hx hb hts hin_X0 hown hK hP 0 rfl rfl 4 (by decide) hf_PressedPlains_Book_24 (fun _ h9 => h9) rfl dX0_manyAt_11 ?_
    refine lv_iload_n hx hb dX0_manyAt_14 rfl (lv_at hl 1 rfl) ?_
    refine pq_iald hx hb hK hP 5 0 rfl rfl e (by omega) (by decide) dX0_manyAt_15 ?_
    refine lv_goto (tgt := 20) hx hb dX0_manyAt_16 (by decide) ?_
    exact pq_iret hQ hx hb hr hlocks hK hS hP hD dX0_manyAt_20 (by omega) (by omega) (⟨by unfold bMany; rw [if_pos c_1], rfl⟩)

set_option maxHeartbeats 4000000 in
set_option maxRecDepth 100000 in
theorem mX0_greatestLessThan (l : Launch) (D : va_G) (cI : ClassId) (h a0 a1 a2 a3 a4 a5 : Nat) (fi la : Nat → Int32) (B : BK) (t : Int32) (e : Nat) (he : e < 128) : pq_M l yX0_greatestLessThan wsX0_greatestLessThan 0 0 0 0 D [(cI, .int)] pq_0 (bkW h a0 a1 a2 a3 a4 a5 cI fi la B) [.ref h, .int t, .int (nI e)] (fun v w1 => v = some (.int (bLess B.1 B.2.1 t e)) ∧ w1 = bkW h a0 a1 a2 a3 a4 a5 cI fi la B) := by
  refine pq_enter (cc := cX0_greatestLessThan) (maxL := 3) (ret := (some .int)) (by decide) rfl (Nat.le_of_ble_eq_true rfl) ?_
  intro p ev s m args below meth cd A ls Q H locs hx hb hr hml hts hown hlocks hnm hK hP hD hS hA hE hl hQ
  have hl : lv_has ls 3 [(0, .ref h), (1, .int t), (2, .int (nI e))] := hl
  have hP : va_P D vwCl [(h, .inr (0, [.ref a0, .ref a1, .ref a2, .ref a3, .ref a4, .ref a5, .int B.2.2.2.2.1, .int B.2.2.2.2.2.1, .int B.2.2.2.2.2.2])), (a0, .inl (cI, 128, .inl fi)), (a1, .inl (cI, 128, .inl la)), (a2, .inl (cI, 128, .inl B.1)), (a3, .inl (cI, 128, .inl B.2.1)), (a4, .inl (cI, 128, .inl B.2.2.1)), (a5, .inl (cI, 128, .inl B.2.2.2.1))] H := hP
  have hD : va_D A [(h, .inr (0, [.ref a0, .ref a1, .ref a2, .ref a3, .ref a4, .ref a5, .int B.2.2.2.2.1, .int B.2.2.2.2.2.1, .int B.2.2.2.2.2.2])), (a0, .inl (cI, 128, .inl fi)), (a1, .inl (cI, 128, .inl la)), (a2, .inl (cI, 128, .inl B.1)), (a3, .inl (cI, 128, .inl B.2.1)), (a4, .inl (cI, 128, .inl B.2.2.1)), (a5, .inl (cI, 128, .inl B.2.2.2.1))] := hD
  have hin_X0 : ∀ w ∈ wsX00, w ∈ wsX0_greatestLessThan := by decide +kernel
  have hf_PressedPlains_Book_18 := hts (.fieldLink RX0 18 "PressedPlains$Book" "greatest" "[I") (by decide +kernel)
  have hf_PressedPlains_Book_21 := hts (.fieldLink RX0 21 "PressedPlains$Book" "second" "[I") (by decide +kernel)
  refine lv_aload_n hx hb dX0_greatestLessThan_0 rfl (lv_at hl 0 rfl) ?_
  refine va_get (D := D) (ci := 0) (v := .ref a2) (C := RX0) (T := TX0) (N := 9) hx hb hts hin_X0 hown hK hP 0 rfl rfl 2 (by decide) hf_PressedPlains_Book_18 (fun _ h9 => h9) rfl dX0_greatestLessThan_1 ?_
  refine lv_iload_n hx hb dX0_greatestLessThan_4 rfl (lv_at hl 2 rfl) ?_
  refine pq_iald hx hb hK hP 3 0 rfl rfl e (by omega) (by decide) dX0_greatestLessThan_5 ?_
  refine lv_iload_n hx hb dX0_greatestLessThan_6 rfl (lv_at hl 1 rfl) ?_
  refine lv_icmp_ge (tgt := 19) hx hb dX0_greatestLessThan_7 (by decide) (fun c_1 => ?_) (fun c_1 => ?_)
  · refine lv_aload_n hx hb dX0_greatestLessThan_19 rfl (lv_at hl 0 rfl) ?_
    refine va_get (D := D) (ci := 0) (v := .ref a3) (C := RX0) (T := TX0) (N := 9) hx hb hts hin_X0 hown hK hP 0 rfl rfl 3 (by decide) hf_PressedPlains_Book_21 (fun _ h9 => h9) rfl dX0_greatestLessThan_20 ?_
    refine lv_iload_n hx hb dX0_greatestLessThan_23 rfl (lv_at hl 2 rfl) ?_
    refine pq_iald hx hb hK hP 4 0 rfl rfl e (by omega) (by decide) dX0_greatestLessThan_24 ?_
    exact pq_iret hQ hx hb hr hlocks hK hS hP hD dX0_greatestLessThan_25 (by omega) (by omega) (⟨by unfold bLess; rw [if_pos c_1], rfl⟩)
  · refine lv_aload_n hx hb dX0_greatestLessThan_10 rfl (lv_at hl 0 rfl) ?_
    refine va_get (D := D) (ci := 0) (v := .ref a2) (C := RX0) (T := TX0) (N := 9) hx hb hts hin_X0 hown hK hP 0 rfl rfl 2 (by decide) hf_PressedPlains_Book_18 (fun _ h9 => h9) rfl dX0_greatestLessThan_11 ?_
    refine lv_iload_n hx hb dX0_greatestLessThan_14 rfl (lv_at hl 2 rfl) ?_
    refine pq_iald hx hb hK hP 3 0 rfl rfl e (by omega) (by decide) dX0_greatestLessThan_15 ?_
    refine lv_goto (tgt := 25) hx hb dX0_greatestLessThan_16 (by decide) ?_
    exact pq_iret hQ hx hb hr hlocks hK hS hP hD dX0_greatestLessThan_25 (by omega) (by omega) (⟨by unfold bLess; rw [if_neg c_1], rfl⟩)

set_option maxHeartbeats 4000000 in
set_option maxRecDepth 100000 in
theorem mX0_pressDown (l : Launch) (D : va_G) (cI : ClassId) (h a0 a1 a2 a3 a4 a5 : Nat) (fi la : Nat → Int32) (B : BK) (e : Nat) (c0 : Int32) (he : e < 128) : pq_M l yX0_pressDown wsX0_pressDown 0 0 0 0 D [(cI, .int)] pq_0 (bkW h a0 a1 a2 a3 a4 a5 cI fi la B) [.ref h, .int (nI e), .int c0] (fun v w1 => v = none ∧ w1 = bkW h a0 a1 a2 a3 a4 a5 cI fi la (bPress B e c0)) := by
  refine pq_enter (cc := cX0_pressDown) (maxL := 3) (ret := none) (by decide) rfl (Nat.le_of_ble_eq_true rfl) ?_
  intro p ev s m args below meth cd A ls Q H locs hx hb hr hml hts hown hlocks hnm hK hP hD hS hA hE hl hQ
  have hl : lv_has ls 3 [(0, .ref h), (1, .int (nI e)), (2, .int c0)] := hl
  have hP : va_P D vwCl [(h, .inr (0, [.ref a0, .ref a1, .ref a2, .ref a3, .ref a4, .ref a5, .int B.2.2.2.2.1, .int B.2.2.2.2.2.1, .int B.2.2.2.2.2.2])), (a0, .inl (cI, 128, .inl fi)), (a1, .inl (cI, 128, .inl la)), (a2, .inl (cI, 128, .inl B.1)), (a3, .inl (cI, 128, .inl B.2.1)), (a4, .inl (cI, 128, .inl B.2.2.1)), (a5, .inl (cI, 128, .inl B.2.2.2.1))] H := hP
  have hD : va_D A [(h, .inr (0, [.ref a0, .ref a1, .ref a2, .ref a3, .ref a4, .ref a5, .int B.2.2.2.2.1, .int B.2.2.2.2.2.1, .int B.2.2.2.2.2.2])), (a0, .inl (cI, 128, .inl fi)), (a1, .inl (cI, 128, .inl la)), (a2, .inl (cI, 128, .inl B.1)), (a3, .inl (cI, 128, .inl B.2.1)), (a4, .inl (cI, 128, .inl B.2.2.1)), (a5, .inl (cI, 128, .inl B.2.2.2.1))] := hD
  have hin_X0 : ∀ w ∈ wsX00, w ∈ wsX0_pressDown := by decide +kernel
  have hf_PressedPlains_Book_27 := hts (.fieldLink RX0 27 "PressedPlains$Book" "sum" "[I") (by decide +kernel)
  have hf_PressedPlains_Book_18 := hts (.fieldLink RX0 18 "PressedPlains$Book" "greatest" "[I") (by decide +kernel)
  have hf_PressedPlains_Book_24 := hts (.fieldLink RX0 24 "PressedPlains$Book" "many" "[I") (by decide +kernel)
  refine lv_aload_n hx hb dX0_pressDown_0 rfl (lv_at hl 0 rfl) ?_
  refine va_get (D := D) (ci := 0) (v := .ref a5) (C := RX0) (T := TX0) (N := 9) hx hb hts hin_X0 hown hK hP 0 rfl rfl 5 (by decide) hf_PressedPlains_Book_27 (fun _ h9 => h9) rfl dX0_pressDown_1 ?_
  refine lv_iload_n hx hb dX0_pressDown_4 rfl (lv_at hl 1 rfl) ?_
  refine lv_dup2_11 hx hb dX0_pressDown_5 rfl rfl ?_
  refine pq_iald hx hb hK hP 6 0 rfl rfl e (by omega) (by decide) dX0_pressDown_6 ?_
  refine lv_aload_n hx hb dX0_pressDown_7 rfl (lv_at hl 0 rfl) ?_
  refine va_get (D := D) (ci := 0) (v := .ref a2) (C := RX0) (T := TX0) (N := 9) hx hb hts hin_X0 hown hK hP 0 rfl rfl 2 (by decide) hf_PressedPlains_Book_18 (fun _ h9 => h9) rfl dX0_pressDown_8 ?_
  refine lv_iload_n hx hb dX0_pressDown_11 rfl (lv_at hl 1 rfl) ?_
  refine pq_iald hx hb hK hP 3 0 rfl rfl e (by omega) (by decide) dX0_pressDown_12 ?_
  refine lv_iload_n hx hb dX0_pressDown_13 rfl (lv_at hl 2 rfl) ?_
  refine lv_isub hx hb dX0_pressDown_14 ?_
  refine lv_aload_n hx hb dX0_pressDown_15 rfl (lv_at hl 0 rfl) ?_
  refine va_get (D := D) (ci := 0) (v := .ref a4) (C := RX0) (T := TX0) (N := 9) hx hb hts hin_X0 hown hK hP 0 rfl rfl 4 (by decide) hf_PressedPlains_Book_24 (fun _ h9 => h9) rfl dX0_pressDown_16 ?_
  refine lv_iload_n hx hb dX0_pressDown_19 rfl (lv_at hl 1 rfl) ?_
  refine pq_iald hx hb hK hP 5 0 rfl rfl e (by omega) (by decide) dX0_pressDown_20 ?_
  refine lv_imul hx hb dX0_pressDown_21 ?_
  refine lv_isub hx hb dX0_pressDown_22 ?_
  refine pq_iast hx hb hK hP hD hS 6 0 rfl rfl e (by omega) (by decide) dX0_pressDown_23 (fun H locs hP hD hS => ?_)
  have hP : va_P D vwCl [(h, .inr (0, [.ref a0, .ref a1, .ref a2, .ref a3, .ref a4, .ref a5, .int B.2.2.2.2.1, .int B.2.2.2.2.2.1, .int B.2.2.2.2.2.2])), (a0, .inl (cI, 128, .inl fi)), (a1, .inl (cI, 128, .inl la)), (a2, .inl (cI, 128, .inl B.1)), (a3, .inl (cI, 128, .inl B.2.1)), (a4, .inl (cI, 128, .inl B.2.2.1)), (a5, .inl (cI, 128, .inl (upd B.2.2.2.1 e ((B.2.2.2.1 e) - (((B.1 e) - c0) * (B.2.2.1 e))))))] H := hP
  have hD : va_D A [(h, .inr (0, [.ref a0, .ref a1, .ref a2, .ref a3, .ref a4, .ref a5, .int B.2.2.2.2.1, .int B.2.2.2.2.2.1, .int B.2.2.2.2.2.2])), (a0, .inl (cI, 128, .inl fi)), (a1, .inl (cI, 128, .inl la)), (a2, .inl (cI, 128, .inl B.1)), (a3, .inl (cI, 128, .inl B.2.1)), (a4, .inl (cI, 128, .inl B.2.2.1)), (a5, .inl (cI, 128, .inl (upd B.2.2.2.1 e ((B.2.2.2.1 e) - (((B.1 e) - c0) * (B.2.2.1 e))))))] := hD
  refine lv_aload_n hx hb dX0_pressDown_24 rfl (lv_at hl 0 rfl) ?_
  refine va_get (D := D) (ci := 0) (v := .ref a2) (C := RX0) (T := TX0) (N := 9) hx hb hts hin_X0 hown hK hP 0 rfl rfl 2 (by decide) hf_PressedPlains_Book_18 (fun _ h9 => h9) rfl dX0_pressDown_25 ?_
  refine lv_iload_n hx hb dX0_pressDown_28 rfl (lv_at hl 1 rfl) ?_
  refine lv_iload_n hx hb dX0_pressDown_29 rfl (lv_at hl 2 rfl) ?_
  refine pq_iast hx hb hK hP hD hS 3 0 rfl rfl e (by omega) (by decide) dX0_pressDown_30 (fun H locs hP hD hS => ?_)
  have hP : va_P D vwCl [(h, .inr (0, [.ref a0, .ref a1, .ref a2, .ref a3, .ref a4, .ref a5, .int B.2.2.2.2.1, .int B.2.2.2.2.2.1, .int B.2.2.2.2.2.2])), (a0, .inl (cI, 128, .inl fi)), (a1, .inl (cI, 128, .inl la)), (a2, .inl (cI, 128, .inl (upd B.1 e c0))), (a3, .inl (cI, 128, .inl B.2.1)), (a4, .inl (cI, 128, .inl B.2.2.1)), (a5, .inl (cI, 128, .inl (upd B.2.2.2.1 e ((B.2.2.2.1 e) - (((B.1 e) - c0) * (B.2.2.1 e))))))] H := hP
  have hD : va_D A [(h, .inr (0, [.ref a0, .ref a1, .ref a2, .ref a3, .ref a4, .ref a5, .int B.2.2.2.2.1, .int B.2.2.2.2.2.1, .int B.2.2.2.2.2.2])), (a0, .inl (cI, 128, .inl fi)), (a1, .inl (cI, 128, .inl la)), (a2, .inl (cI, 128, .inl (upd B.1 e c0))), (a3, .inl (cI, 128, .inl B.2.1)), (a4, .inl (cI, 128, .inl B.2.2.1)), (a5, .inl (cI, 128, .inl (upd B.2.2.2.1 e ((B.2.2.2.1 e) - (((B.1 e) - c0) * (B.2.2.1 e))))))] := hD
  exact pq_vret hQ hx hb hr hlocks hK hS hP hD dX0_pressDown_31 (by omega) (by omega) (⟨rfl, rfl⟩)

set_option maxHeartbeats 4000000 in
set_option maxRecDepth 100000 in
theorem mX0_countVisit (l : Launch) (D : va_G) (cI : ClassId) (h a0 a1 a2 a3 a4 a5 : Nat) (fi la : Nat → Int32) (B : BK) : pq_M l yX0_countVisit wsX0_countVisit 0 0 0 0 D [(cI, .int)] pq_0 (bkW h a0 a1 a2 a3 a4 a5 cI fi la B) [.ref h] (fun v w1 => v = none ∧ w1 = bkW h a0 a1 a2 a3 a4 a5 cI fi la (bVisit B)) := by
  refine pq_enter (cc := cX0_countVisit) (maxL := 1) (ret := none) (by decide) rfl (Nat.le_of_ble_eq_true rfl) ?_
  intro p ev s m args below meth cd A ls Q H locs hx hb hr hml hts hown hlocks hnm hK hP hD hS hA hE hl hQ
  have hl : lv_has ls 1 [(0, .ref h)] := hl
  have hP : va_P D vwCl [(h, .inr (0, [.ref a0, .ref a1, .ref a2, .ref a3, .ref a4, .ref a5, .int B.2.2.2.2.1, .int B.2.2.2.2.2.1, .int B.2.2.2.2.2.2])), (a0, .inl (cI, 128, .inl fi)), (a1, .inl (cI, 128, .inl la)), (a2, .inl (cI, 128, .inl B.1)), (a3, .inl (cI, 128, .inl B.2.1)), (a4, .inl (cI, 128, .inl B.2.2.1)), (a5, .inl (cI, 128, .inl B.2.2.2.1))] H := hP
  have hD : va_D A [(h, .inr (0, [.ref a0, .ref a1, .ref a2, .ref a3, .ref a4, .ref a5, .int B.2.2.2.2.1, .int B.2.2.2.2.2.1, .int B.2.2.2.2.2.2])), (a0, .inl (cI, 128, .inl fi)), (a1, .inl (cI, 128, .inl la)), (a2, .inl (cI, 128, .inl B.1)), (a3, .inl (cI, 128, .inl B.2.1)), (a4, .inl (cI, 128, .inl B.2.2.1)), (a5, .inl (cI, 128, .inl B.2.2.2.1))] := hD
  have hin_X0 : ∀ w ∈ wsX00, w ∈ wsX0_countVisit := by decide +kernel
  have hf_PressedPlains_Book_38 := hts (.fieldLink RX0 38 "PressedPlains$Book" "latestVisits" "I") (by decide +kernel)
  have hf_PressedPlains_Book_42 := hts (.fieldLink RX0 42 "PressedPlains$Book" "totalVisits" "I") (by decide +kernel)
  refine lv_aload_n hx hb dX0_countVisit_0 rfl (lv_at hl 0 rfl) ?_
  refine lv_dup hx hb dX0_countVisit_1 rfl ?_
  refine va_get (D := D) (ci := 0) (v := .int B.2.2.2.2.1) (C := RX0) (T := TX0) (N := 9) hx hb hts hin_X0 hown hK hP 0 rfl rfl 6 (by decide) hf_PressedPlains_Book_38 (fun _ h9 => h9) rfl dX0_countVisit_2 ?_
  refine lv_iconst (v := 1) hx hb dX0_countVisit_5 (by decide) ?_
  refine lv_iadd hx hb dX0_countVisit_6 ?_
  refine va_put (D := D) (ci := 0) (v := .int (B.2.2.2.2.1 + 1)) (ty := .int) (C := RX0) (T := TX0) (N := 9) hx hb hts hin_X0 tyX0 tyX0_ok nmX0 hown hK hP hD hS 0 rfl rfl 6 (by decide) hf_PressedPlains_Book_38 (fun _ h9 => h9) rfl (by decide +kernel) rfl rfl (Nat.le_of_ble_eq_true rfl) dX0_countVisit_7 (fun H locs hP hD hS => ?_)
  have hP : va_P D vwCl [(h, .inr (0, [.ref a0, .ref a1, .ref a2, .ref a3, .ref a4, .ref a5, .int (B.2.2.2.2.1 + 1), .int B.2.2.2.2.2.1, .int B.2.2.2.2.2.2])), (a0, .inl (cI, 128, .inl fi)), (a1, .inl (cI, 128, .inl la)), (a2, .inl (cI, 128, .inl B.1)), (a3, .inl (cI, 128, .inl B.2.1)), (a4, .inl (cI, 128, .inl B.2.2.1)), (a5, .inl (cI, 128, .inl B.2.2.2.1))] H := hP
  have hD : va_D A [(h, .inr (0, [.ref a0, .ref a1, .ref a2, .ref a3, .ref a4, .ref a5, .int (B.2.2.2.2.1 + 1), .int B.2.2.2.2.2.1, .int B.2.2.2.2.2.2])), (a0, .inl (cI, 128, .inl fi)), (a1, .inl (cI, 128, .inl la)), (a2, .inl (cI, 128, .inl B.1)), (a3, .inl (cI, 128, .inl B.2.1)), (a4, .inl (cI, 128, .inl B.2.2.1)), (a5, .inl (cI, 128, .inl B.2.2.2.1))] := hD
  refine lv_aload_n hx hb dX0_countVisit_10 rfl (lv_at hl 0 rfl) ?_
  refine lv_dup hx hb dX0_countVisit_11 rfl ?_
  refine va_get (D := D) (ci := 0) (v := .int B.2.2.2.2.2.1) (C := RX0) (T := TX0) (N := 9) hx hb hts hin_X0 hown hK hP 0 rfl rfl 7 (by decide) hf_PressedPlains_Book_42 (fun _ h9 => h9) rfl dX0_countVisit_12 ?_
  refine lv_iconst (v := 1) hx hb dX0_countVisit_15 (by decide) ?_
  refine lv_iadd hx hb dX0_countVisit_16 ?_
  refine va_put (D := D) (ci := 0) (v := .int (B.2.2.2.2.2.1 + 1)) (ty := .int) (C := RX0) (T := TX0) (N := 9) hx hb hts hin_X0 tyX0 tyX0_ok nmX0 hown hK hP hD hS 0 rfl rfl 7 (by decide) hf_PressedPlains_Book_42 (fun _ h9 => h9) rfl (by decide +kernel) rfl rfl (Nat.le_of_ble_eq_true rfl) dX0_countVisit_17 (fun H locs hP hD hS => ?_)
  have hP : va_P D vwCl [(h, .inr (0, [.ref a0, .ref a1, .ref a2, .ref a3, .ref a4, .ref a5, .int (B.2.2.2.2.1 + 1), .int (B.2.2.2.2.2.1 + 1), .int B.2.2.2.2.2.2])), (a0, .inl (cI, 128, .inl fi)), (a1, .inl (cI, 128, .inl la)), (a2, .inl (cI, 128, .inl B.1)), (a3, .inl (cI, 128, .inl B.2.1)), (a4, .inl (cI, 128, .inl B.2.2.1)), (a5, .inl (cI, 128, .inl B.2.2.2.1))] H := hP
  have hD : va_D A [(h, .inr (0, [.ref a0, .ref a1, .ref a2, .ref a3, .ref a4, .ref a5, .int (B.2.2.2.2.1 + 1), .int (B.2.2.2.2.2.1 + 1), .int B.2.2.2.2.2.2])), (a0, .inl (cI, 128, .inl fi)), (a1, .inl (cI, 128, .inl la)), (a2, .inl (cI, 128, .inl B.1)), (a3, .inl (cI, 128, .inl B.2.1)), (a4, .inl (cI, 128, .inl B.2.2.1)), (a5, .inl (cI, 128, .inl B.2.2.2.1))] := hD
  exact pq_vret hQ hx hb hr hlocks hK hS hP hD dX0_countVisit_20 (by omega) (by omega) (⟨rfl, rfl⟩)

set_option maxHeartbeats 4000000 in
set_option maxRecDepth 100000 in
theorem mX0_beginCall (l : Launch) (D : va_G) (cI : ClassId) (h a0 a1 a2 a3 a4 a5 : Nat) (fi la : Nat → Int32) (B : BK) : pq_M l yX0_beginCall wsX0_beginCall 0 0 0 0 D [(cI, .int)] pq_0 (bkW h a0 a1 a2 a3 a4 a5 cI fi la B) [.ref h] (fun v w1 => v = none ∧ w1 = bkW h a0 a1 a2 a3 a4 a5 cI fi la (bBegin B)) := by
  refine pq_enter (cc := cX0_beginCall) (maxL := 1) (ret := none) (by decide) rfl (Nat.le_of_ble_eq_true rfl) ?_
  intro p ev s m args below meth cd A ls Q H locs hx hb hr hml hts hown hlocks hnm hK hP hD hS hA hE hl hQ
  have hl : lv_has ls 1 [(0, .ref h)] := hl
  have hP : va_P D vwCl [(h, .inr (0, [.ref a0, .ref a1, .ref a2, .ref a3, .ref a4, .ref a5, .int B.2.2.2.2.1, .int B.2.2.2.2.2.1, .int B.2.2.2.2.2.2])), (a0, .inl (cI, 128, .inl fi)), (a1, .inl (cI, 128, .inl la)), (a2, .inl (cI, 128, .inl B.1)), (a3, .inl (cI, 128, .inl B.2.1)), (a4, .inl (cI, 128, .inl B.2.2.1)), (a5, .inl (cI, 128, .inl B.2.2.2.1))] H := hP
  have hD : va_D A [(h, .inr (0, [.ref a0, .ref a1, .ref a2, .ref a3, .ref a4, .ref a5, .int B.2.2.2.2.1, .int B.2.2.2.2.2.1, .int B.2.2.2.2.2.2])), (a0, .inl (cI, 128, .inl fi)), (a1, .inl (cI, 128, .inl la)), (a2, .inl (cI, 128, .inl B.1)), (a3, .inl (cI, 128, .inl B.2.1)), (a4, .inl (cI, 128, .inl B.2.2.1)), (a5, .inl (cI, 128, .inl B.2.2.2.1))] := hD
  have hin_X0 : ∀ w ∈ wsX00, w ∈ wsX0_beginCall := by decide +kernel
  have hf_PressedPlains_Book_45 := hts (.fieldLink RX0 45 "PressedPlains$Book" "calls" "I") (by decide +kernel)
  have hf_PressedPlains_Book_38 := hts (.fieldLink RX0 38 "PressedPlains$Book" "latestVisits" "I") (by decide +kernel)
  refine lv_aload_n hx hb dX0_beginCall_0 rfl (lv_at hl 0 rfl) ?_
  refine lv_dup hx hb dX0_beginCall_1 rfl ?_
  refine va_get (D := D) (ci := 0) (v := .int B.2.2.2.2.2.2) (C := RX0) (T := TX0) (N := 9) hx hb hts hin_X0 hown hK hP 0 rfl rfl 8 (by decide) hf_PressedPlains_Book_45 (fun _ h9 => h9) rfl dX0_beginCall_2 ?_
  refine lv_iconst (v := 1) hx hb dX0_beginCall_5 (by decide) ?_
  refine lv_iadd hx hb dX0_beginCall_6 ?_
  refine va_put (D := D) (ci := 0) (v := .int (B.2.2.2.2.2.2 + 1)) (ty := .int) (C := RX0) (T := TX0) (N := 9) hx hb hts hin_X0 tyX0 tyX0_ok nmX0 hown hK hP hD hS 0 rfl rfl 8 (by decide) hf_PressedPlains_Book_45 (fun _ h9 => h9) rfl (by decide +kernel) rfl rfl (Nat.le_of_ble_eq_true rfl) dX0_beginCall_7 (fun H locs hP hD hS => ?_)
  have hP : va_P D vwCl [(h, .inr (0, [.ref a0, .ref a1, .ref a2, .ref a3, .ref a4, .ref a5, .int B.2.2.2.2.1, .int B.2.2.2.2.2.1, .int (B.2.2.2.2.2.2 + 1)])), (a0, .inl (cI, 128, .inl fi)), (a1, .inl (cI, 128, .inl la)), (a2, .inl (cI, 128, .inl B.1)), (a3, .inl (cI, 128, .inl B.2.1)), (a4, .inl (cI, 128, .inl B.2.2.1)), (a5, .inl (cI, 128, .inl B.2.2.2.1))] H := hP
  have hD : va_D A [(h, .inr (0, [.ref a0, .ref a1, .ref a2, .ref a3, .ref a4, .ref a5, .int B.2.2.2.2.1, .int B.2.2.2.2.2.1, .int (B.2.2.2.2.2.2 + 1)])), (a0, .inl (cI, 128, .inl fi)), (a1, .inl (cI, 128, .inl la)), (a2, .inl (cI, 128, .inl B.1)), (a3, .inl (cI, 128, .inl B.2.1)), (a4, .inl (cI, 128, .inl B.2.2.1)), (a5, .inl (cI, 128, .inl B.2.2.2.1))] := hD
  refine lv_aload_n hx hb dX0_beginCall_10 rfl (lv_at hl 0 rfl) ?_
  refine lv_iconst (v := 0) hx hb dX0_beginCall_11 (by decide) ?_
  refine va_put (D := D) (ci := 0) (v := .int 0) (ty := .int) (C := RX0) (T := TX0) (N := 9) hx hb hts hin_X0 tyX0 tyX0_ok nmX0 hown hK hP hD hS 0 rfl rfl 6 (by decide) hf_PressedPlains_Book_38 (fun _ h9 => h9) rfl (by decide +kernel) rfl rfl (Nat.le_of_ble_eq_true rfl) dX0_beginCall_12 (fun H locs hP hD hS => ?_)
  have hP : va_P D vwCl [(h, .inr (0, [.ref a0, .ref a1, .ref a2, .ref a3, .ref a4, .ref a5, .int 0, .int B.2.2.2.2.2.1, .int (B.2.2.2.2.2.2 + 1)])), (a0, .inl (cI, 128, .inl fi)), (a1, .inl (cI, 128, .inl la)), (a2, .inl (cI, 128, .inl B.1)), (a3, .inl (cI, 128, .inl B.2.1)), (a4, .inl (cI, 128, .inl B.2.2.1)), (a5, .inl (cI, 128, .inl B.2.2.2.1))] H := hP
  have hD : va_D A [(h, .inr (0, [.ref a0, .ref a1, .ref a2, .ref a3, .ref a4, .ref a5, .int 0, .int B.2.2.2.2.2.1, .int (B.2.2.2.2.2.2 + 1)])), (a0, .inl (cI, 128, .inl fi)), (a1, .inl (cI, 128, .inl la)), (a2, .inl (cI, 128, .inl B.1)), (a3, .inl (cI, 128, .inl B.2.1)), (a4, .inl (cI, 128, .inl B.2.2.1)), (a5, .inl (cI, 128, .inl B.2.2.2.1))] := hD
  exact pq_vret hQ hx hb hr hlocks hK hS hP hD dX0_beginCall_15 (by omega) (by omega) (⟨rfl, rfl⟩)

set_option maxHeartbeats 4000000 in
set_option maxRecDepth 100000 in
theorem mX0_catchUp (l : Launch) (D : va_G) (cI : ClassId) (h a0 a1 a2 a3 a4 a5 : Nat) (fi la : Nat → Int32) (B : BK) (e : Nat) (he : e < 128) : pq_M l yX0_catchUp wsX0_catchUp 1 22 0 0 D [(cI, .int)] pq_0 (bkW h a0 a1 a2 a3 a4 a5 cI fi la B) [.ref h, .int (nI e)] (fun v w1 => v = none ∧ w1 = bkW h a0 a1 a2 a3 a4 a5 cI fi la (bCatch B e)) := by
  refine pq_enter (cc := cX0_catchUp) (maxL := 2) (ret := none) (by decide) rfl (Nat.le_of_ble_eq_true rfl) ?_
  intro p ev s m args below meth cd A ls Q H locs hx hb hr hml hts hown hlocks hnm hK hP hD hS hA hE hl hQ
  have hl : lv_has ls 2 [(0, .ref h), (1, .int (nI e))] := hl
  have hP : va_P D vwCl [(h, .inr (0, [.ref a0, .ref a1, .ref a2, .ref a3, .ref a4, .ref a5, .int B.2.2.2.2.1, .int B.2.2.2.2.2.1, .int B.2.2.2.2.2.2])), (a0, .inl (cI, 128, .inl fi)), (a1, .inl (cI, 128, .inl la)), (a2, .inl (cI, 128, .inl B.1)), (a3, .inl (cI, 128, .inl B.2.1)), (a4, .inl (cI, 128, .inl B.2.2.1)), (a5, .inl (cI, 128, .inl B.2.2.2.1))] H := hP
  have hD : va_D A [(h, .inr (0, [.ref a0, .ref a1, .ref a2, .ref a3, .ref a4, .ref a5, .int B.2.2.2.2.1, .int B.2.2.2.2.2.1, .int B.2.2.2.2.2.2])), (a0, .inl (cI, 128, .inl fi)), (a1, .inl (cI, 128, .inl la)), (a2, .inl (cI, 128, .inl B.1)), (a3, .inl (cI, 128, .inl B.2.1)), (a4, .inl (cI, 128, .inl B.2.2.1)), (a5, .inl (cI, 128, .inl B.2.2.2.1))] := hD
  have hin_X0 : ∀ w ∈ wsX00, w ∈ wsX0_catchUp := by decide +kernel
  have hf_PressedPlains_Book_18 := hts (.fieldLink RX0 18 "PressedPlains$Book" "greatest" "[I") (by decide +kernel)
  refine lv_aload_n hx hb dX0_catchUp_0 rfl (lv_at hl 0 rfl) ?_
  refine lv_iload_n hx hb dX0_catchUp_1 rfl (lv_at hl 1 rfl) ?_
  refine pq_callV (wr := []) (own := RX0) (nL := 2) (q0 := 0) (ci := 0) [0, 1, 2, 3, 4, 5, 6] [] [.int (nI e)] (mX0_lags l D cI h a0 a1 a2 a3 a4 a5 fi la B e (by omega)) ⟨hx, hb, hml, hown, hts⟩ (cwV 1 hts gX0_catchUp_X0_lags rfl rfl rfl (by decide +kernel) ⟨by dsimp only [pq_R]; omega, by dsimp only [pq_R]; omega⟩) pq_bl0 (fun _ _ _ => trivial) hK hP hD hS hA rfl (by decide) rfl (by decide) (by decide) rfl rfl rfl rfl hl.1 rfl (Nat.le_of_ble_eq_true rfl) dX0_catchUp_2 ⟨by dsimp only [pq_R]; omega, by dsimp only [pq_R]; omega⟩ (fun v w1 H locs hq hP hD hS hz => ?_)
  obtain ⟨rfl, rfl⟩ := hq
  have hP : va_P D vwCl [(h, .inr (0, [.ref a0, .ref a1, .ref a2, .ref a3, .ref a4, .ref a5, .int B.2.2.2.2.1, .int B.2.2.2.2.2.1, .int B.2.2.2.2.2.2])), (a0, .inl (cI, 128, .inl fi)), (a1, .inl (cI, 128, .inl la)), (a2, .inl (cI, 128, .inl B.1)), (a3, .inl (cI, 128, .inl B.2.1)), (a4, .inl (cI, 128, .inl B.2.2.1)), (a5, .inl (cI, 128, .inl B.2.2.2.1))] H := hP
  have hD : va_D A [(h, .inr (0, [.ref a0, .ref a1, .ref a2, .ref a3, .ref a4, .ref a5, .int B.2.2.2.2.1, .int B.2.2.2.2.2.1, .int B.2.2.2.2.2.2])), (a0, .inl (cI, 128, .inl fi)), (a1, .inl (cI, 128, .inl la)), (a2, .inl (cI, 128, .inl B.1)), (a3, .inl (cI, 128, .inl B.2.1)), (a4, .inl (cI, 128, .inl B.2.2.1)), (a5, .inl (cI, 128, .inl B.2.2.2.1))] := hD
  by_cases b_1 : bLag B e
  · rw [if_pos b_1]
    refine W.eq (g2 := F0 m 5 ls [.int 1]) rfl ?_
    refine lv_if_eq (tgt := 21) hx hb dX0_catchUp_5 (by decide) (fun c9 => absurd c9 (by decide)) (fun _ => ?_)
    refine lv_aload_n hx hb dX0_catchUp_8 rfl (lv_at hl 0 rfl) ?_
    refine lv_iload_n hx hb dX0_catchUp_9 rfl (lv_at hl 1 rfl) ?_
    refine lv_aload_n hx hb dX0_catchUp_10 rfl (lv_at hl 0 rfl) ?_
    refine va_get (D := D) (ci := 0) (v := .ref a2) (C := RX0) (T := TX0) (N := 9) hx hb hts hin_X0 hown hK hP 0 rfl rfl 2 (by decide) hf_PressedPlains_Book_18 (fun _ h9 => h9) rfl dX0_catchUp_11 ?_
    refine lv_iload_n hx hb dX0_catchUp_14 rfl (lv_at hl 1 rfl) ?_
    refine lv_iconst (v := 2) hx hb dX0_catchUp_15 (by decide) ?_
    refine lv_idiv hx hb dX0_catchUp_16 (by decide) ?_
    refine pq_top (nI (e / 2)) (pk_div (d := 2) (by omega) (by decide) (by decide)) ?_
    refine pq_iald hx hb hK hP 3 0 rfl rfl (e / 2) (by omega) (by decide) dX0_catchUp_17 ?_
    refine pq_callV (wr := []) (own := RX0) (nL := 2) (q0 := 0) (ci := 0) [0, 1, 2, 3, 4, 5, 6] [] [.int (nI e), .int (B.1 (e / 2))] (mX0_pressDown l D cI h a0 a1 a2 a3 a4 a5 fi la B e (B.1 (e / 2)) (by omega)) ⟨hx, hb, hml, hown, hts⟩ (cwV 2 hts gX0_catchUp_X0_pressDown rfl rfl rfl (by decide +kernel) ⟨by dsimp only [pq_R]; omega, by dsimp only [pq_R]; omega⟩) pq_bl0 (fun _ _ _ => trivial) hK hP hD hS hA rfl (by decide) rfl (by decide) (by decide) rfl rfl rfl rfl hl.1 rfl (Nat.le_of_ble_eq_true rfl) dX0_catchUp_18 ⟨by dsimp only [pq_R]; omega, by dsimp only [pq_R]; omega⟩ (fun v w1 H locs hq hP hD hS hz => ?_)
    obtain ⟨rfl, rfl⟩ := hq
    obtain ⟨B_2, hB_2⟩ : ∃ zz, zz = bPress B e (B.1 (e / 2)) := ⟨_, rfl⟩
    rw [← hB_2] at hP hD
    have hP : va_P D vwCl [(h, .inr (0, [.ref a0, .ref a1, .ref a2, .ref a3, .ref a4, .ref a5, .int B_2.2.2.2.2.1, .int B_2.2.2.2.2.2.1, .int B_2.2.2.2.2.2.2])), (a0, .inl (cI, 128, .inl fi)), (a1, .inl (cI, 128, .inl la)), (a2, .inl (cI, 128, .inl B_2.1)), (a3, .inl (cI, 128, .inl B_2.2.1)), (a4, .inl (cI, 128, .inl B_2.2.2.1)), (a5, .inl (cI, 128, .inl B_2.2.2.2.1))] H := hP
    have hD : va_D A [(h, .inr (0, [.ref a0, .ref a1, .ref a2, .ref a3, .ref a4, .ref a5, .int B_2.2.2.2.2.1, .int B_2.2.2.2.2.2.1, .int B_2.2.2.2.2.2.2])), (a0, .inl (cI, 128, .inl fi)), (a1, .inl (cI, 128, .inl la)), (a2, .inl (cI, 128, .inl B_2.1)), (a3, .inl (cI, 128, .inl B_2.2.1)), (a4, .inl (cI, 128, .inl B_2.2.2.1)), (a5, .inl (cI, 128, .inl B_2.2.2.2.1))] := hD
    refine W.eq (g2 := F0 m 21 ls []) rfl ?_
    exact pq_vret hQ hx hb hr hlocks hK hS hP hD dX0_catchUp_21 (by omega) (by omega) (⟨rfl, by subst hB_2; unfold bCatch; rw [if_pos b_1] <;> rfl⟩)
  · rw [if_neg b_1]
    refine W.eq (g2 := F0 m 5 ls [.int 0]) rfl ?_
    refine lv_if_eq (tgt := 21) hx hb dX0_catchUp_5 (by decide) (fun _ => ?_) (fun c9 => absurd c9 (by decide))
    exact pq_vret hQ hx hb hr hlocks hK hS hP hD dX0_catchUp_21 (by omega) (by omega) (⟨rfl, by unfold bCatch; rw [if_neg b_1] <;> rfl⟩)

set_option maxHeartbeats 4000000 in
set_option maxRecDepth 100000 in
theorem mX0_catchUpBelow (l : Launch) (D : va_G) (cI : ClassId) (h a0 a1 a2 a3 a4 a5 : Nat) (fi la : Nat → Int32) (B : BK) (e : Nat) (he : e < 64) : pq_M l yX0_catchUpBelow wsX0_catchUpBelow 2 43 0 0 D [(cI, .int)] pq_0 (bkW h a0 a1 a2 a3 a4 a5 cI fi la B) [.ref h, .int (nI e)] (fun v w1 => v = none ∧ w1 = bkW h a0 a1 a2 a3 a4 a5 cI fi la (bCatch2 B e)) := by
  refine pq_enter (cc := cX0_catchUpBelow) (maxL := 2) (ret := none) (by decide) rfl (Nat.le_of_ble_eq_true rfl) ?_
  intro p ev s m args below meth cd A ls Q H locs hx hb hr hml hts hown hlocks hnm hK hP hD hS hA hE hl hQ
  have hl : lv_has ls 2 [(0, .ref h), (1, .int (nI e))] := hl
  have hP : va_P D vwCl [(h, .inr (0, [.ref a0, .ref a1, .ref a2, .ref a3, .ref a4, .ref a5, .int B.2.2.2.2.1, .int B.2.2.2.2.2.1, .int B.2.2.2.2.2.2])), (a0, .inl (cI, 128, .inl fi)), (a1, .inl (cI, 128, .inl la)), (a2, .inl (cI, 128, .inl B.1)), (a3, .inl (cI, 128, .inl B.2.1)), (a4, .inl (cI, 128, .inl B.2.2.1)), (a5, .inl (cI, 128, .inl B.2.2.2.1))] H := hP
  have hD : va_D A [(h, .inr (0, [.ref a0, .ref a1, .ref a2, .ref a3, .ref a4, .ref a5, .int B.2.2.2.2.1, .int B.2.2.2.2.2.1, .int B.2.2.2.2.2.2])), (a0, .inl (cI, 128, .inl fi)), (a1, .inl (cI, 128, .inl la)), (a2, .inl (cI, 128, .inl B.1)), (a3, .inl (cI, 128, .inl B.2.1)), (a4, .inl (cI, 128, .inl B.2.2.1)), (a5, .inl (cI, 128, .inl B.2.2.2.1))] := hD
  refine lv_aload_n hx hb dX0_catchUpBelow_0 rfl (lv_at hl 0 rfl) ?_
  refine lv_iconst (v := 2) hx hb dX0_catchUpBelow_1 (by decide) ?_
  refine lv_iload_n hx hb dX0_catchUpBelow_2 rfl (lv_at hl 1 rfl) ?_
  refine lv_imul hx hb dX0_catchUpBelow_3 ?_
  refine pq_top (nI (2 * e)) (pk_mul 2 _) ?_
  refine pq_callV (wr := []) (own := RX0) (nL := 2) (q0 := 0) (ci := 0) [0, 1, 2, 3, 4, 5, 6] [] [.int (nI (2 * e))] (mX0_catchUp l D cI h a0 a1 a2 a3 a4 a5 fi la B (2 * e) (by omega)) ⟨hx, hb, hml, hown, hts⟩ (cwV 1 hts gX0_catchUpBelow_X0_catchUp rfl rfl rfl (by decide +kernel) ⟨by dsimp only [pq_R]; omega, by dsimp only [pq_R]; omega⟩) pq_bl0 (fun _ _ _ => trivial) hK hP hD hS hA rfl (by decide) rfl (by decide) (by decide) rfl rfl rfl rfl hl.1 rfl (Nat.le_of_ble_eq_true rfl) dX0_catchUpBelow_4 ⟨by dsimp only [pq_R]; omega, by dsimp only [pq_R]; omega⟩ (fun v w1 H locs hq hP hD hS hz => ?_)
  obtain ⟨rfl, rfl⟩ := hq
  obtain ⟨B_1, hB_1⟩ : ∃ zz, zz = bCatch B (2 * e) := ⟨_, rfl⟩
  rw [← hB_1] at hP hD
  have hP : va_P D vwCl [(h, .inr (0, [.ref a0, .ref a1, .ref a2, .ref a3, .ref a4, .ref a5, .int B_1.2.2.2.2.1, .int B_1.2.2.2.2.2.1, .int B_1.2.2.2.2.2.2])), (a0, .inl (cI, 128, .inl fi)), (a1, .inl (cI, 128, .inl la)), (a2, .inl (cI, 128, .inl B_1.1)), (a3, .inl (cI, 128, .inl B_1.2.1)), (a4, .inl (cI, 128, .inl B_1.2.2.1)), (a5, .inl (cI, 128, .inl B_1.2.2.2.1))] H := hP
  have hD : va_D A [(h, .inr (0, [.ref a0, .ref a1, .ref a2, .ref a3, .ref a4, .ref a5, .int B_1.2.2.2.2.1, .int B_1.2.2.2.2.2.1, .int B_1.2.2.2.2.2.2])), (a0, .inl (cI, 128, .inl fi)), (a1, .inl (cI, 128, .inl la)), (a2, .inl (cI, 128, .inl B_1.1)), (a3, .inl (cI, 128, .inl B_1.2.1)), (a4, .inl (cI, 128, .inl B_1.2.2.1)), (a5, .inl (cI, 128, .inl B_1.2.2.2.1))] := hD
  refine W.eq (g2 := F0 m 7 ls []) rfl ?_
  refine lv_aload_n hx hb dX0_catchUpBelow_7 rfl (lv_at hl 0 rfl) ?_
  refine lv_iconst (v := 2) hx hb dX0_catchUpBelow_8 (by decide) ?_
  refine lv_iload_n hx hb dX0_catchUpBelow_9 rfl (lv_at hl 1 rfl) ?_
  refine lv_imul hx hb dX0_catchUpBelow_10 ?_
  refine pq_top (nI (2 * e)) (pk_mul 2 _) ?_
  refine lv_iconst (v := 1) hx hb dX0_catchUpBelow_11 (by decide) ?_
  refine lv_iadd hx hb dX0_catchUpBelow_12 ?_
  refine pq_top (nI ((2 * e) + 1)) (nI_1 _) ?_
  refine pq_callV (wr := []) (own := RX0) (nL := 2) (q0 := 0) (ci := 0) [0, 1, 2, 3, 4, 5, 6] [] [.int (nI ((2 * e) + 1))] (mX0_catchUp l D cI h a0 a1 a2 a3 a4 a5 fi la B_1 ((2 * e) + 1) (by omega)) ⟨hx, hb, hml, hown, hts⟩ (cwV 1 hts gX0_catchUpBelow_X0_catchUp rfl rfl rfl (by decide +kernel) ⟨by dsimp only [pq_R]; omega, by dsimp only [pq_R]; omega⟩) pq_bl0 (fun _ _ _ => trivial) hK hP hD hS hA rfl (by decide) rfl (by decide) (by decide) rfl rfl rfl rfl hl.1 rfl (Nat.le_of_ble_eq_true rfl) dX0_catchUpBelow_13 ⟨by dsimp only [pq_R]; omega, by dsimp only [pq_R]; omega⟩ (fun v w1 H locs hq hP hD hS hz => ?_)
  obtain ⟨rfl, rfl⟩ := hq
  obtain ⟨B_2, hB_2⟩ : ∃ zz, zz = bCatch B_1 ((2 * e) + 1) := ⟨_, rfl⟩
  rw [← hB_2] at hP hD
  have hP : va_P D vwCl [(h, .inr (0, [.ref a0, .ref a1, .ref a2, .ref a3, .ref a4, .ref a5, .int B_2.2.2.2.2.1, .int B_2.2.2.2.2.2.1, .int B_2.2.2.2.2.2.2])), (a0, .inl (cI, 128, .inl fi)), (a1, .inl (cI, 128, .inl la)), (a2, .inl (cI, 128, .inl B_2.1)), (a3, .inl (cI, 128, .inl B_2.2.1)), (a4, .inl (cI, 128, .inl B_2.2.2.1)), (a5, .inl (cI, 128, .inl B_2.2.2.2.1))] H := hP
  have hD : va_D A [(h, .inr (0, [.ref a0, .ref a1, .ref a2, .ref a3, .ref a4, .ref a5, .int B_2.2.2.2.2.1, .int B_2.2.2.2.2.2.1, .int B_2.2.2.2.2.2.2])), (a0, .inl (cI, 128, .inl fi)), (a1, .inl (cI, 128, .inl la)), (a2, .inl (cI, 128, .inl B_2.1)), (a3, .inl (cI, 128, .inl B_2.2.1)), (a4, .inl (cI, 128, .inl B_2.2.2.1)), (a5, .inl (cI, 128, .inl B_2.2.2.2.1))] := hD
  refine W.eq (g2 := F0 m 16 ls []) rfl ?_
  exact pq_vret hQ hx hb hr hlocks hK hS hP hD dX0_catchUpBelow_16 (by omega) (by omega) (⟨rfl, by subst hB_2; subst hB_1; rfl⟩)

set_option maxHeartbeats 4000000 in
set_option maxRecDepth 100000 in
theorem mX0_tellAnew (l : Launch) (D : va_G) (cI : ClassId) (h a0 a1 a2 a3 a4 a5 : Nat) (fi la : Nat → Int32) (B : BK) (e : Nat) (he : e < 64) : pq_M l yX0_tellAnew wsX0_tellAnew 1 30 0 0 D [(cI, .int)] pq_0 (bkW h a0 a1 a2 a3 a4 a5 cI fi la B) [.ref h, .int (nI e)] (fun v w1 => v = none ∧ w1 = bkW h a0 a1 a2 a3 a4 a5 cI fi la (bTell B e)) := by
  refine pq_enter (cc := cX0_tellAnew) (maxL := 5) (ret := none) (by decide) rfl (Nat.le_of_ble_eq_true rfl) ?_
  intro p ev s m args below meth cd A ls Q H locs hx hb hr hml hts hown hlocks hnm hK hP hD hS hA hE hl hQ
  have hl : lv_has ls 5 [(0, .ref h), (1, .int (nI e))] := hl
  have hP : va_P D vwCl [(h, .inr (0, [.ref a0, .ref a1, .ref a2, .ref a3, .ref a4, .ref a5, .int B.2.2.2.2.1, .int B.2.2.2.2.2.1, .int B.2.2.2.2.2.2])), (a0, .inl (cI, 128, .inl fi)), (a1, .inl (cI, 128, .inl la)), (a2, .inl (cI, 128, .inl B.1)), (a3, .inl (cI, 128, .inl B.2.1)), (a4, .inl (cI, 128, .inl B.2.2.1)), (a5, .inl (cI, 128, .inl B.2.2.2.1))] H := hP
  have hD : va_D A [(h, .inr (0, [.ref a0, .ref a1, .ref a2, .ref a3, .ref a4, .ref a5, .int B.2.2.2.2.1, .int B.2.2.2.2.2.1, .int B.2.2.2.2.2.2])), (a0, .inl (cI, 128, .inl fi)), (a1, .inl (cI, 128, .inl la)), (a2, .inl (cI, 128, .inl B.1)), (a3, .inl (cI, 128, .inl B.2.1)), (a4, .inl (cI, 128, .inl B.2.2.1)), (a5, .inl (cI, 128, .inl B.2.2.2.1))] := hD
  have hin_X0 : ∀ w ∈ wsX00, w ∈ wsX0_tellAnew := by decide +kernel
  have hf_PressedPlains_Book_18 := hts (.fieldLink RX0 18 "PressedPlains$Book" "greatest" "[I") (by decide +kernel)
  have hm1_max101 := hts (.methodLink RX0 101 Lib.Math.max.name) (by decide +kernel)
  have hm2_max := hts (.static Lib.Math.max.name) (by decide +kernel)
  have hm3 := hts (.initialized "java/lang/Math") (by decide +kernel)
  have hm4_max := hts (.code Lib.Math.max.name Lib.Math.max.code 2 (some .int)) (by decide +kernel)
  have hf_PressedPlains_Book_24 := hts (.fieldLink RX0 24 "PressedPlains$Book" "many" "[I") (by decide +kernel)
  have hf_PressedPlains_Book_21 := hts (.fieldLink RX0 21 "PressedPlains$Book" "second" "[I") (by decide +kernel)
  have hf_PressedPlains_Book_27 := hts (.fieldLink RX0 27 "PressedPlains$Book" "sum" "[I") (by decide +kernel)
  refine lv_iconst (v := 2) hx hb dX0_tellAnew_0 (by decide) ?_
  refine lv_iload_n hx hb dX0_tellAnew_1 rfl (lv_at hl 1 rfl) ?_
  refine lv_imul hx hb dX0_tellAnew_2 ?_
  refine pq_top (nI (2 * e)) (pk_mul 2 _) ?_
  refine lv_istore_n (lv' := [(2, .int (nI (2 * e))), (0, .ref h), (1, .int (nI e))]) hx hb dX0_tellAnew_3 rfl hl (by decide) rfl (fun ls hl => ?_)
  refine lv_iload_n hx hb dX0_tellAnew_4 rfl (lv_at hl 0 rfl) ?_
  refine lv_iconst (v := 1) hx hb dX0_tellAnew_5 (by decide) ?_
  refine lv_iadd hx hb dX0_tellAnew_6 ?_
  refine pq_top (nI ((2 * e) + 1)) (nI_1 _) ?_
  refine lv_istore_n (lv' := [(3, .int (nI ((2 * e) + 1))), (2, .int (nI (2 * e))), (0, .ref h), (1, .int (nI e))]) hx hb dX0_tellAnew_7 rfl hl (by decide) rfl (fun ls hl => ?_)
  refine lv_aload_n hx hb dX0_tellAnew_8 rfl (lv_at hl 2 rfl) ?_
  refine va_get (D := D) (ci := 0) (v := .ref a2) (C := RX0) (T := TX0) (N := 9) hx hb hts hin_X0 hown hK hP 0 rfl rfl 2 (by decide) hf_PressedPlains_Book_18 (fun _ h9 => h9) rfl dX0_tellAnew_9 ?_
  refine lv_iload_n hx hb dX0_tellAnew_12 rfl (lv_at hl 1 rfl) ?_
  refine pq_iald hx hb hK hP 3 0 rfl rfl (2 * e) (by omega) (by decide) dX0_tellAnew_13 ?_
  refine lv_aload_n hx hb dX0_tellAnew_14 rfl (lv_at hl 2 rfl) ?_
  refine va_get (D := D) (ci := 0) (v := .ref a2) (C := RX0) (T := TX0) (N := 9) hx hb hts hin_X0 hown hK hP 0 rfl rfl 2 (by decide) hf_PressedPlains_Book_18 (fun _ h9 => h9) rfl dX0_tellAnew_15 ?_
  refine lv_iload_n hx hb dX0_tellAnew_18 rfl (lv_at hl 0 rfl) ?_
  refine pq_iald hx hb hK hP 3 0 rfl rfl ((2 * e) + 1) (by omega) (by decide) dX0_tellAnew_19 ?_
  refine va_mmax hx hb (hml.trans hl.1.symm) hown hm1_max101 hm2_max hm3 hm4_max (by first | exact Nat.le_of_ble_eq_true rfl | (dsimp only [pq_R]; omega)) (by first | exact Nat.le_of_ble_eq_true rfl | (simp only [List.map_nil, List.map_cons, List.sum_nil, List.sum_cons, pq_R, Value.category]; omega)) (Nat.le_of_ble_eq_true rfl) (Nat.le_of_ble_eq_true rfl) dX0_tellAnew_20 ?_
  refine pq_top (bMax (B.1 (2 * e)) (B.1 ((2 * e) + 1))) rfl ?_
  refine lv_istore (lv' := [(4, .int (bMax (B.1 (2 * e)) (B.1 ((2 * e) + 1)))), (3, .int (nI ((2 * e) + 1))), (2, .int (nI (2 * e))), (0, .ref h), (1, .int (nI e))]) hx hb dX0_tellAnew_23 hl (by decide) rfl (fun ls hl => ?_)
  refine lv_aload_n hx hb dX0_tellAnew_25 rfl (lv_at hl 3 rfl) ?_
  refine va_get (D := D) (ci := 0) (v := .ref a2) (C := RX0) (T := TX0) (N := 9) hx hb hts hin_X0 hown hK hP 0 rfl rfl 2 (by decide) hf_PressedPlains_Book_18 (fun _ h9 => h9) rfl dX0_tellAnew_26 ?_
  refine lv_iload_n hx hb dX0_tellAnew_29 rfl (lv_at hl 4 rfl) ?_
  refine lv_iload hx hb dX0_tellAnew_30 (lv_at hl 0 rfl) ?_
  refine pq_iast hx hb hK hP hD hS 3 0 rfl rfl e (by omega) (by decide) dX0_tellAnew_32 (fun H locs hP hD hS => ?_)
  have hP : va_P D vwCl [(h, .inr (0, [.ref a0, .ref a1, .ref a2, .ref a3, .ref a4, .ref a5, .int B.2.2.2.2.1, .int B.2.2.2.2.2.1, .int B.2.2.2.2.2.2])), (a0, .inl (cI, 128, .inl fi)), (a1, .inl (cI, 128, .inl la)), (a2, .inl (cI, 128, .inl (upd B.1 e (bMax (B.1 (2 * e)) (B.1 ((2 * e) + 1)))))), (a3, .inl (cI, 128, .inl B.2.1)), (a4, .inl (cI, 128, .inl B.2.2.1)), (a5, .inl (cI, 128, .inl B.2.2.2.1))] H := hP
  have hD : va_D A [(h, .inr (0, [.ref a0, .ref a1, .ref a2, .ref a3, .ref a4, .ref a5, .int B.2.2.2.2.1, .int B.2.2.2.2.2.1, .int B.2.2.2.2.2.2])), (a0, .inl (cI, 128, .inl fi)), (a1, .inl (cI, 128, .inl la)), (a2, .inl (cI, 128, .inl (upd B.1 e (bMax (B.1 (2 * e)) (B.1 ((2 * e) + 1)))))), (a3, .inl (cI, 128, .inl B.2.1)), (a4, .inl (cI, 128, .inl B.2.2.1)), (a5, .inl (cI, 128, .inl B.2.2.2.1))] := hD
  refine lv_aload_n hx hb dX0_tellAnew_33 rfl (lv_at hl 3 rfl) ?_
  refine va_get (D := D) (ci := 0) (v := .ref a4) (C := RX0) (T := TX0) (N := 9) hx hb hts hin_X0 hown hK hP 0 rfl rfl 4 (by decide) hf_PressedPlains_Book_24 (fun _ h9 => h9) rfl dX0_tellAnew_34 ?_
  refine lv_iload_n hx hb dX0_tellAnew_37 rfl (lv_at hl 4 rfl) ?_
  refine lv_aload_n hx hb dX0_tellAnew_38 rfl (lv_at hl 3 rfl) ?_
  refine lv_iload_n hx hb dX0_tellAnew_39 rfl (lv_at hl 2 rfl) ?_
  refine lv_iload hx hb dX0_tellAnew_40 (lv_at hl 0 rfl) ?_
  refine pq_callV (wr := []) (own := RX0) (nL := 5) (q0 := 0) (ci := 0) [0, 1, 2, 3, 4, 5, 6] [] [.int (nI (2 * e)), .int (bMax (B.1 (2 * e)) (B.1 ((2 * e) + 1)))] (mX0_manyAt l D cI h a0 a1 a2 a3 a4 a5 fi la (upd B.1 e (bMax (B.1 (2 * e)) (B.1 ((2 * e) + 1))), B.2.1, B.2.2.1, B.2.2.2.1, B.2.2.2.2) (2 * e) (bMax (B.1 (2 * e)) (B.1 ((2 * e) + 1))) (by omega)) ⟨hx, hb, hml, hown, hts⟩ (cwV 2 hts gX0_tellAnew_X0_manyAt rfl rfl rfl (by decide +kernel) ⟨by dsimp only [pq_R]; omega, by dsimp only [pq_R]; omega⟩) pq_bl0 (fun _ _ _ => trivial) hK hP hD hS hA rfl (by decide) rfl (by decide) (by decide) rfl rfl rfl rfl hl.1 rfl (Nat.le_of_ble_eq_true rfl) dX0_tellAnew_42 ⟨by dsimp only [pq_R]; omega, by dsimp only [pq_R]; omega⟩ (fun v w1 H locs hq hP hD hS hz => ?_)
  obtain ⟨rfl, rfl⟩ := hq
  have hP : va_P D vwCl [(h, .inr (0, [.ref a0, .ref a1, .ref a2, .ref a3, .ref a4, .ref a5, .int B.2.2.2.2.1, .int B.2.2.2.2.2.1, .int B.2.2.2.2.2.2])), (a0, .inl (cI, 128, .inl fi)), (a1, .inl (cI, 128, .inl la)), (a2, .inl (cI, 128, .inl (upd B.1 e (bMax (B.1 (2 * e)) (B.1 ((2 * e) + 1)))))), (a3, .inl (cI, 128, .inl B.2.1)), (a4, .inl (cI, 128, .inl B.2.2.1)), (a5, .inl (cI, 128, .inl B.2.2.2.1))] H := hP
  have hD : va_D A [(h, .inr (0, [.ref a0, .ref a1, .ref a2, .ref a3, .ref a4, .ref a5, .int B.2.2.2.2.1, .int B.2.2.2.2.2.1, .int B.2.2.2.2.2.2])), (a0, .inl (cI, 128, .inl fi)), (a1, .inl (cI, 128, .inl la)), (a2, .inl (cI, 128, .inl (upd B.1 e (bMax (B.1 (2 * e)) (B.1 ((2 * e) + 1)))))), (a3, .inl (cI, 128, .inl B.2.1)), (a4, .inl (cI, 128, .inl B.2.2.1)), (a5, .inl (cI, 128, .inl B.2.2.2.1))] := hD
  refine W.eq (g2 := F0 m 45 ls [.int (bMany (upd B.1 e (bMax (B.1 (2 * e)) (B.1 ((2 * e) + 1)))) B.2.2.1 (2 * e) (bMax (B.1 (2 * e)) (B.1 ((2 * e) + 1)))), .int (nI e), .ref a4]) rfl ?_
  refine lv_aload_n hx hb dX0_tellAnew_45 rfl (lv_at hl 3 rfl) ?_
  refine lv_iload_n hx hb dX0_tellAnew_46 rfl (lv_at hl 1 rfl) ?_
  refine lv_iload hx hb dX0_tellAnew_47 (lv_at hl 0 rfl) ?_
  refine pq_callV (wr := []) (own := RX0) (nL := 5) (q0 := 0) (ci := 0) [0, 1, 2, 3, 4, 5, 6] [] [.int (nI ((2 * e) + 1)), .int (bMax (B.1 (2 * e)) (B.1 ((2 * e) + 1)))] (mX0_manyAt l D cI h a0 a1 a2 a3 a4 a5 fi la (upd B.1 e (bMax (B.1 (2 * e)) (B.1 ((2 * e) + 1))), B.2.1, B.2.2.1, B.2.2.2.1, B.2.2.2.2) ((2 * e) + 1) (bMax (B.1 (2 * e)) (B.1 ((2 * e) + 1))) (by omega)) ⟨hx, hb, hml, hown, hts⟩ (cwV 2 hts gX0_tellAnew_X0_manyAt rfl rfl rfl (by decide +kernel) ⟨by dsimp only [pq_R]; omega, by dsimp only [pq_R]; omega⟩) pq_bl0 (fun _ _ _ => trivial) hK hP hD hS hA rfl (by decide) rfl (by decide) (by decide) rfl rfl rfl rfl hl.1 rfl (Nat.le_of_ble_eq_true rfl) dX0_tellAnew_49 ⟨by dsimp only [pq_R]; omega, by dsimp only [pq_R]; omega⟩ (fun v w1 H locs hq hP hD hS hz => ?_)
  obtain ⟨rfl, rfl⟩ := hq
  have hP : va_P D vwCl [(h, .inr (0, [.ref a0, .ref a1, .ref a2, .ref a3, .ref a4, .ref a5, .int B.2.2.2.2.1, .int B.2.2.2.2.2.1, .int B.2.2.2.2.2.2])), (a0, .inl (cI, 128, .inl fi)), (a1, .inl (cI, 128, .inl la)), (a2, .inl (cI, 128, .inl (upd B.1 e (bMax (B.1 (2 * e)) (B.1 ((2 * e) + 1)))))), (a3, .inl (cI, 128, .inl B.2.1)), (a4, .inl (cI, 128, .inl B.2.2.1)), (a5, .inl (cI, 128, .inl B.2.2.2.1))] H := hP
  have hD : va_D A [(h, .inr (0, [.ref a0, .ref a1, .ref a2, .ref a3, .ref a4, .ref a5, .int B.2.2.2.2.1, .int B.2.2.2.2.2.1, .int B.2.2.2.2.2.2])), (a0, .inl (cI, 128, .inl fi)), (a1, .inl (cI, 128, .inl la)), (a2, .inl (cI, 128, .inl (upd B.1 e (bMax (B.1 (2 * e)) (B.1 ((2 * e) + 1)))))), (a3, .inl (cI, 128, .inl B.2.1)), (a4, .inl (cI, 128, .inl B.2.2.1)), (a5, .inl (cI, 128, .inl B.2.2.2.1))] := hD
  refine W.eq (g2 := F0 m 52 ls [.int (bMany (upd B.1 e (bMax (B.1 (2 * e)) (B.1 ((2 * e) + 1)))) B.2.2.1 ((2 * e) + 1) (bMax (B.1 (2 * e)) (B.1 ((2 * e) + 1)))), .int (bMany (upd B.1 e (bMax (B.1 (2 * e)) (B.1 ((2 * e) + 1)))) B.2.2.1 (2 * e) (bMax (B.1 (2 * e)) (B.1 ((2 * e) + 1)))), .int (nI e), .ref a4]) rfl ?_
  refine lv_iadd hx hb dX0_tellAnew_52 ?_
  refine pq_iast hx hb hK hP hD hS 5 0 rfl rfl e (by omega) (by decide) dX0_tellAnew_53 (fun H locs hP hD hS => ?_)
  have hP : va_P D vwCl [(h, .inr (0, [.ref a0, .ref a1, .ref a2, .ref a3, .ref a4, .ref a5, .int B.2.2.2.2.1, .int B.2.2.2.2.2.1, .int B.2.2.2.2.2.2])), (a0, .inl (cI, 128, .inl fi)), (a1, .inl (cI, 128, .inl la)), (a2, .inl (cI, 128, .inl (upd B.1 e (bMax (B.1 (2 * e)) (B.1 ((2 * e) + 1)))))), (a3, .inl (cI, 128, .inl B.2.1)), (a4, .inl (cI, 128, .inl (upd B.2.2.1 e ((bMany (upd B.1 e (bMax (B.1 (2 * e)) (B.1 ((2 * e) + 1)))) B.2.2.1 (2 * e) (bMax (B.1 (2 * e)) (B.1 ((2 * e) + 1)))) + (bMany (upd B.1 e (bMax (B.1 (2 * e)) (B.1 ((2 * e) + 1)))) B.2.2.1 ((2 * e) + 1) (bMax (B.1 (2 * e)) (B.1 ((2 * e) + 1)))))))), (a5, .inl (cI, 128, .inl B.2.2.2.1))] H := hP
  have hD : va_D A [(h, .inr (0, [.ref a0, .ref a1, .ref a2, .ref a3, .ref a4, .ref a5, .int B.2.2.2.2.1, .int B.2.2.2.2.2.1, .int B.2.2.2.2.2.2])), (a0, .inl (cI, 128, .inl fi)), (a1, .inl (cI, 128, .inl la)), (a2, .inl (cI, 128, .inl (upd B.1 e (bMax (B.1 (2 * e)) (B.1 ((2 * e) + 1)))))), (a3, .inl (cI, 128, .inl B.2.1)), (a4, .inl (cI, 128, .inl (upd B.2.2.1 e ((bMany (upd B.1 e (bMax (B.1 (2 * e)) (B.1 ((2 * e) + 1)))) B.2.2.1 (2 * e) (bMax (B.1 (2 * e)) (B.1 ((2 * e) + 1)))) + (bMany (upd B.1 e (bMax (B.1 (2 * e)) (B.1 ((2 * e) + 1)))) B.2.2.1 ((2 * e) + 1) (bMax (B.1 (2 * e)) (B.1 ((2 * e) + 1)))))))), (a5, .inl (cI, 128, .inl B.2.2.2.1))] := hD
  refine lv_aload_n hx hb dX0_tellAnew_54 rfl (lv_at hl 3 rfl) ?_
  refine va_get (D := D) (ci := 0) (v := .ref a3) (C := RX0) (T := TX0) (N := 9) hx hb hts hin_X0 hown hK hP 0 rfl rfl 3 (by decide) hf_PressedPlains_Book_21 (fun _ h9 => h9) rfl dX0_tellAnew_55 ?_
  refine lv_iload_n hx hb dX0_tellAnew_58 rfl (lv_at hl 4 rfl) ?_
  refine lv_aload_n hx hb dX0_tellAnew_59 rfl (lv_at hl 3 rfl) ?_
  refine lv_iload hx hb dX0_tellAnew_60 (lv_at hl 0 rfl) ?_
  refine lv_iload_n hx hb dX0_tellAnew_62 rfl (lv_at hl 2 rfl) ?_
  refine pq_callV (wr := []) (own := RX0) (nL := 5) (q0 := 0) (ci := 0) [0, 1, 2, 3, 4, 5, 6] [] [.int (bMax (B.1 (2 * e)) (B.1 ((2 * e) + 1))), .int (nI (2 * e))] (mX0_greatestLessThan l D cI h a0 a1 a2 a3 a4 a5 fi la (upd B.1 e (bMax (B.1 (2 * e)) (B.1 ((2 * e) + 1))), B.2.1, upd B.2.2.1 e ((bMany (upd B.1 e (bMax (B.1 (2 * e)) (B.1 ((2 * e) + 1)))) B.2.2.1 (2 * e) (bMax (B.1 (2 * e)) (B.1 ((2 * e) + 1)))) + (bMany (upd B.1 e (bMax (B.1 (2 * e)) (B.1 ((2 * e) + 1)))) B.2.2.1 ((2 * e) + 1) (bMax (B.1 (2 * e)) (B.1 ((2 * e) + 1))))), B.2.2.2.1, B.2.2.2.2) (bMax (B.1 (2 * e)) (B.1 ((2 * e) + 1))) (2 * e) (by omega)) ⟨hx, hb, hml, hown, hts⟩ (cwV 2 hts gX0_tellAnew_X0_greatestLessThan rfl rfl rfl (by decide +kernel) ⟨by dsimp only [pq_R]; omega, by dsimp only [pq_R]; omega⟩) pq_bl0 (fun _ _ _ => trivial) hK hP hD hS hA rfl (by decide) rfl (by decide) (by decide) rfl rfl rfl rfl hl.1 rfl (Nat.le_of_ble_eq_true rfl) dX0_tellAnew_63 ⟨by dsimp only [pq_R]; omega, by dsimp only [pq_R]; omega⟩ (fun v w1 H locs hq hP hD hS hz => ?_)
  obtain ⟨rfl, rfl⟩ := hq
  have hP : va_P D vwCl [(h, .inr (0, [.ref a0, .ref a1, .ref a2, .ref a3, .ref a4, .ref a5, .int B.2.2.2.2.1, .int B.2.2.2.2.2.1, .int B.2.2.2.2.2.2])), (a0, .inl (cI, 128, .inl fi)), (a1, .inl (cI, 128, .inl la)), (a2, .inl (cI, 128, .inl (upd B.1 e (bMax (B.1 (2 * e)) (B.1 ((2 * e) + 1)))))), (a3, .inl (cI, 128, .inl B.2.1)), (a4, .inl (cI, 128, .inl (upd B.2.2.1 e ((bMany (upd B.1 e (bMax (B.1 (2 * e)) (B.1 ((2 * e) + 1)))) B.2.2.1 (2 * e) (bMax (B.1 (2 * e)) (B.1 ((2 * e) + 1)))) + (bMany (upd B.1 e (bMax (B.1 (2 * e)) (B.1 ((2 * e) + 1)))) B.2.2.1 ((2 * e) + 1) (bMax (B.1 (2 * e)) (B.1 ((2 * e) + 1)))))))), (a5, .inl (cI, 128, .inl B.2.2.2.1))] H := hP
  have hD : va_D A [(h, .inr (0, [.ref a0, .ref a1, .ref a2, .ref a3, .ref a4, .ref a5, .int B.2.2.2.2.1, .int B.2.2.2.2.2.1, .int B.2.2.2.2.2.2])), (a0, .inl (cI, 128, .inl fi)), (a1, .inl (cI, 128, .inl la)), (a2, .inl (cI, 128, .inl (upd B.1 e (bMax (B.1 (2 * e)) (B.1 ((2 * e) + 1)))))), (a3, .inl (cI, 128, .inl B.2.1)), (a4, .inl (cI, 128, .inl (upd B.2.2.1 e ((bMany (upd B.1 e (bMax (B.1 (2 * e)) (B.1 ((2 * e) + 1)))) B.2.2.1 (2 * e) (bMax (B.1 (2 * e)) (B.1 ((2 * e) + 1)))) + (bMany (upd B.1 e (bMax (B.1 (2 * e)) (B.1 ((2 * e) + 1)))) B.2.2.1 ((2 * e) + 1) (bMax (B.1 (2 * e)) (B.1 ((2 * e) + 1)))))))), (a5, .inl (cI, 128, .inl B.2.2.2.1))] := hD
  refine W.eq (g2 := F0 m 66 ls [.int (bLess (upd B.1 e (bMax (B.1 (2 * e)) (B.1 ((2 * e) + 1)))) B.2.1 (bMax (B.1 (2 * e)) (B.1 ((2 * e) + 1))) (2 * e)), .int (nI e), .ref a3]) rfl ?_
  refine lv_aload_n hx hb dX0_tellAnew_66 rfl (lv_at hl 3 rfl) ?_
  refine lv_iload hx hb dX0_tellAnew_67 (lv_at hl 0 rfl) ?_
  refine lv_iload_n hx hb dX0_tellAnew_69 rfl (lv_at hl 1 rfl) ?_
  refine pq_callV (wr := []) (own := RX0) (nL := 5) (q0 := 0) (ci := 0) [0, 1, 2, 3, 4, 5, 6] [] [.int (bMax (B.1 (2 * e)) (B.1 ((2 * e) + 1))), .int (nI ((2 * e) + 1))] (mX0_greatestLessThan l D cI h a0 a1 a2 a3 a4 a5 fi la (upd B.1 e (bMax (B.1 (2 * e)) (B.1 ((2 * e) + 1))), B.2.1, upd B.2.2.1 e ((bMany (upd B.1 e (bMax (B.1 (2 * e)) (B.1 ((2 * e) + 1)))) B.2.2.1 (2 * e) (bMax (B.1 (2 * e)) (B.1 ((2 * e) + 1)))) + (bMany (upd B.1 e (bMax (B.1 (2 * e)) (B.1 ((2 * e) + 1)))) B.2.2.1 ((2 * e) + 1) (bMax (B.1 (2 * e)) (B.1 ((2 * e) + 1))))), B.2.2.2.1, B.2.2.2.2) (bMax (B.1 (2 * e)) (B.1 ((2 * e) + 1))) ((2 * e) + 1) (by omega)) ⟨hx, hb, hml, hown, hts⟩ (cwV 2 hts gX0_tellAnew_X0_greatestLessThan rfl rfl rfl (by decide +kernel) ⟨by dsimp only [pq_R]; omega, by dsimp only [pq_R]; omega⟩) pq_bl0 (fun _ _ _ => trivial) hK hP hD hS hA rfl (by decide) rfl (by decide) (by decide) rfl rfl rfl rfl hl.1 rfl (Nat.le_of_ble_eq_true rfl) dX0_tellAnew_70 ⟨by dsimp only [pq_R]; omega, by dsimp only [pq_R]; omega⟩ (fun v w1 H locs hq hP hD hS hz => ?_)
  obtain ⟨rfl, rfl⟩ := hq
  have hP : va_P D vwCl [(h, .inr (0, [.ref a0, .ref a1, .ref a2, .ref a3, .ref a4, .ref a5, .int B.2.2.2.2.1, .int B.2.2.2.2.2.1, .int B.2.2.2.2.2.2])), (a0, .inl (cI, 128, .inl fi)), (a1, .inl (cI, 128, .inl la)), (a2, .inl (cI, 128, .inl (upd B.1 e (bMax (B.1 (2 * e)) (B.1 ((2 * e) + 1)))))), (a3, .inl (cI, 128, .inl B.2.1)), (a4, .inl (cI, 128, .inl (upd B.2.2.1 e ((bMany (upd B.1 e (bMax (B.1 (2 * e)) (B.1 ((2 * e) + 1)))) B.2.2.1 (2 * e) (bMax (B.1 (2 * e)) (B.1 ((2 * e) + 1)))) + (bMany (upd B.1 e (bMax (B.1 (2 * e)) (B.1 ((2 * e) + 1)))) B.2.2.1 ((2 * e) + 1) (bMax (B.1 (2 * e)) (B.1 ((2 * e) + 1)))))))), (a5, .inl (cI, 128, .inl B.2.2.2.1))] H := hP
  have hD : va_D A [(h, .inr (0, [.ref a0, .ref a1, .ref a2, .ref a3, .ref a4, .ref a5, .int B.2.2.2.2.1, .int B.2.2.2.2.2.1, .int B.2.2.2.2.2.2])), (a0, .inl (cI, 128, .inl fi)), (a1, .inl (cI, 128, .inl la)), (a2, .inl (cI, 128, .inl (upd B.1 e (bMax (B.1 (2 * e)) (B.1 ((2 * e) + 1)))))), (a3, .inl (cI, 128, .inl B.2.1)), (a4, .inl (cI, 128, .inl (upd B.2.2.1 e ((bMany (upd B.1 e (bMax (B.1 (2 * e)) (B.1 ((2 * e) + 1)))) B.2.2.1 (2 * e) (bMax (B.1 (2 * e)) (B.1 ((2 * e) + 1)))) + (bMany (upd B.1 e (bMax (B.1 (2 * e)) (B.1 ((2 * e) + 1)))) B.2.2.1 ((2 * e) + 1) (bMax (B.1 (2 * e)) (B.1 ((2 * e) + 1)))))))), (a5, .inl (cI, 128, .inl B.2.2.2.1))] := hD
  refine W.eq (g2 := F0 m 73 ls [.int (bLess (upd B.1 e (bMax (B.1 (2 * e)) (B.1 ((2 * e) + 1)))) B.2.1 (bMax (B.1 (2 * e)) (B.1 ((2 * e) + 1))) ((2 * e) + 1)), .int (bLess (upd B.1 e (bMax (B.1 (2 * e)) (B.1 ((2 * e) + 1)))) B.2.1 (bMax (B.1 (2 * e)) (B.1 ((2 * e) + 1))) (2 * e)), .int (nI e), .ref a3]) rfl ?_
  refine va_mmax hx hb (hml.trans hl.1.symm) hown hm1_max101 hm2_max hm3 hm4_max (by first | exact Nat.le_of_ble_eq_true rfl | (dsimp only [pq_R]; omega)) (by first | exact Nat.le_of_ble_eq_true rfl | (simp only [List.map_nil, List.map_cons, List.sum_nil, List.sum_cons, pq_R, Value.category]; omega)) (Nat.le_of_ble_eq_true rfl) (Nat.le_of_ble_eq_true rfl) dX0_tellAnew_73 ?_
  refine pq_top (bMax (bLess (upd B.1 e (bMax (B.1 (2 * e)) (B.1 ((2 * e) + 1)))) B.2.1 (bMax (B.1 (2 * e)) (B.1 ((2 * e) + 1))) (2 * e)) (bLess (upd B.1 e (bMax (B.1 (2 * e)) (B.1 ((2 * e) + 1)))) B.2.1 (bMax (B.1 (2 * e)) (B.1 ((2 * e) + 1))) ((2 * e) + 1))) rfl ?_
  refine pq_iast hx hb hK hP hD hS 4 0 rfl rfl e (by omega) (by decide) dX0_tellAnew_76 (fun H locs hP hD hS => ?_)
  have hP : va_P D vwCl [(h, .inr (0, [.ref a0, .ref a1, .ref a2, .ref a3, .ref a4, .ref a5, .int B.2.2.2.2.1, .int B.2.2.2.2.2.1, .int B.2.2.2.2.2.2])), (a0, .inl (cI, 128, .inl fi)), (a1, .inl (cI, 128, .inl la)), (a2, .inl (cI, 128, .inl (upd B.1 e (bMax (B.1 (2 * e)) (B.1 ((2 * e) + 1)))))), (a3, .inl (cI, 128, .inl (upd B.2.1 e (bMax (bLess (upd B.1 e (bMax (B.1 (2 * e)) (B.1 ((2 * e) + 1)))) B.2.1 (bMax (B.1 (2 * e)) (B.1 ((2 * e) + 1))) (2 * e)) (bLess (upd B.1 e (bMax (B.1 (2 * e)) (B.1 ((2 * e) + 1)))) B.2.1 (bMax (B.1 (2 * e)) (B.1 ((2 * e) + 1))) ((2 * e) + 1)))))), (a4, .inl (cI, 128, .inl (upd B.2.2.1 e ((bMany (upd B.1 e (bMax (B.1 (2 * e)) (B.1 ((2 * e) + 1)))) B.2.2.1 (2 * e) (bMax (B.1 (2 * e)) (B.1 ((2 * e) + 1)))) + (bMany (upd B.1 e (bMax (B.1 (2 * e)) (B.1 ((2 * e) + 1)))) B.2.2.1 ((2 * e) + 1) (bMax (B.1 (2 * e)) (B.1 ((2 * e) + 1)))))))), (a5, .inl (cI, 128, .inl B.2.2.2.1))] H := hP
  have hD : va_D A [(h, .inr (0, [.ref a0, .ref a1, .ref a2, .ref a3, .ref a4, .ref a5, .int B.2.2.2.2.1, .int B.2.2.2.2.2.1, .int B.2.2.2.2.2.2])), (a0, .inl (cI, 128, .inl fi)), (a1, .inl (cI, 128, .inl la)), (a2, .inl (cI, 128, .inl (upd B.1 e (bMax (B.1 (2 * e)) (B.1 ((2 * e) + 1)))))), (a3, .inl (cI, 128, .inl (upd B.2.1 e (bMax (bLess (upd B.1 e (bMax (B.1 (2 * e)) (B.1 ((2 * e) + 1)))) B.2.1 (bMax (B.1 (2 * e)) (B.1 ((2 * e) + 1))) (2 * e)) (bLess (upd B.1 e (bMax (B.1 (2 * e)) (B.1 ((2 * e) + 1)))) B.2.1 (bMax (B.1 (2 * e)) (B.1 ((2 * e) + 1))) ((2 * e) + 1)))))), (a4, .inl (cI, 128, .inl (upd B.2.2.1 e ((bMany (upd B.1 e (bMax (B.1 (2 * e)) (B.1 ((2 * e) + 1)))) B.2.2.1 (2 * e) (bMax (B.1 (2 * e)) (B.1 ((2 * e) + 1)))) + (bMany (upd B.1 e (bMax (B.1 (2 * e)) (B.1 ((2 * e) + 1)))) B.2.2.1 ((2 * e) + 1) (bMax (B.1 (2 * e)) (B.1 ((2 * e) + 1)))))))), (a5, .inl (cI, 128, .inl B.2.2.2.1))] := hD
  refine lv_aload_n hx hb dX0_tellAnew_77 rfl (lv_at hl 3 rfl) ?_
  refine va_get (D := D) (ci := 0) (v := .ref a5) (C := RX0) (T := TX0) (N := 9) hx hb hts hin_X0 hown hK hP 0 rfl rfl 5 (by decide) hf_PressedPlains_Book_27 (fun _ h9 => h9) rfl dX0_tellAnew_78 ?_
  refine lv_iload_n hx hb dX0_tellAnew_81 rfl (lv_at hl 4 rfl) ?_
  refine lv_aload_n hx hb dX0_tellAnew_82 rfl (lv_at hl 3 rfl) ?_
  refine va_get (D := D) (ci := 0) (v := .ref a5) (C := RX0) (T := TX0) (N := 9) hx hb hts hin_X0 hown hK hP 0 rfl rfl 5 (by decide) hf_PressedPlains_Book_27 (fun _ h9 => h9) rfl dX0_tellAnew_83 ?_
  refine lv_iload_n hx hb dX0_tellAnew_86 rfl (lv_at hl 2 rfl) ?_
  refine pq_iald hx hb hK hP 6 0 rfl rfl (2 * e) (by omega) (by decide) dX0_tellAnew_87 ?_
  refine lv_aload_n hx hb dX0_tellAnew_88 rfl (lv_at hl 3 rfl) ?_
  refine va_get (D := D) (ci := 0) (v := .ref a5) (C := RX0) (T := TX0) (N := 9) hx hb hts hin_X0 hown hK hP 0 rfl rfl 5 (by decide) hf_PressedPlains_Book_27 (fun _ h9 => h9) rfl dX0_tellAnew_89 ?_
  refine lv_iload_n hx hb dX0_tellAnew_92 rfl (lv_at hl 1 rfl) ?_
  refine pq_iald hx hb hK hP 6 0 rfl rfl ((2 * e) + 1) (by omega) (by decide) dX0_tellAnew_93 ?_
  refine lv_iadd hx hb dX0_tellAnew_94 ?_
  refine pq_iast hx hb hK hP hD hS 6 0 rfl rfl e (by omega) (by decide) dX0_tellAnew_95 (fun H locs hP hD hS => ?_)
  have hP : va_P D vwCl [(h, .inr (0, [.ref a0, .ref a1, .ref a2, .ref a3, .ref a4, .ref a5, .int B.2.2.2.2.1, .int B.2.2.2.2.2.1, .int B.2.2.2.2.2.2])), (a0, .inl (cI, 128, .inl fi)), (a1, .inl (cI, 128, .inl la)), (a2, .inl (cI, 128, .inl (upd B.1 e (bMax (B.1 (2 * e)) (B.1 ((2 * e) + 1)))))), (a3, .inl (cI, 128, .inl (upd B.2.1 e (bMax (bLess (upd B.1 e (bMax (B.1 (2 * e)) (B.1 ((2 * e) + 1)))) B.2.1 (bMax (B.1 (2 * e)) (B.1 ((2 * e) + 1))) (2 * e)) (bLess (upd B.1 e (bMax (B.1 (2 * e)) (B.1 ((2 * e) + 1)))) B.2.1 (bMax (B.1 (2 * e)) (B.1 ((2 * e) + 1))) ((2 * e) + 1)))))), (a4, .inl (cI, 128, .inl (upd B.2.2.1 e ((bMany (upd B.1 e (bMax (B.1 (2 * e)) (B.1 ((2 * e) + 1)))) B.2.2.1 (2 * e) (bMax (B.1 (2 * e)) (B.1 ((2 * e) + 1)))) + (bMany (upd B.1 e (bMax (B.1 (2 * e)) (B.1 ((2 * e) + 1)))) B.2.2.1 ((2 * e) + 1) (bMax (B.1 (2 * e)) (B.1 ((2 * e) + 1)))))))), (a5, .inl (cI, 128, .inl (upd B.2.2.2.1 e ((B.2.2.2.1 (2 * e)) + (B.2.2.2.1 ((2 * e) + 1))))))] H := hP
  have hD : va_D A [(h, .inr (0, [.ref a0, .ref a1, .ref a2, .ref a3, .ref a4, .ref a5, .int B.2.2.2.2.1, .int B.2.2.2.2.2.1, .int B.2.2.2.2.2.2])), (a0, .inl (cI, 128, .inl fi)), (a1, .inl (cI, 128, .inl la)), (a2, .inl (cI, 128, .inl (upd B.1 e (bMax (B.1 (2 * e)) (B.1 ((2 * e) + 1)))))), (a3, .inl (cI, 128, .inl (upd B.2.1 e (bMax (bLess (upd B.1 e (bMax (B.1 (2 * e)) (B.1 ((2 * e) + 1)))) B.2.1 (bMax (B.1 (2 * e)) (B.1 ((2 * e) + 1))) (2 * e)) (bLess (upd B.1 e (bMax (B.1 (2 * e)) (B.1 ((2 * e) + 1)))) B.2.1 (bMax (B.1 (2 * e)) (B.1 ((2 * e) + 1))) ((2 * e) + 1)))))), (a4, .inl (cI, 128, .inl (upd B.2.2.1 e ((bMany (upd B.1 e (bMax (B.1 (2 * e)) (B.1 ((2 * e) + 1)))) B.2.2.1 (2 * e) (bMax (B.1 (2 * e)) (B.1 ((2 * e) + 1)))) + (bMany (upd B.1 e (bMax (B.1 (2 * e)) (B.1 ((2 * e) + 1)))) B.2.2.1 ((2 * e) + 1) (bMax (B.1 (2 * e)) (B.1 ((2 * e) + 1)))))))), (a5, .inl (cI, 128, .inl (upd B.2.2.2.1 e ((B.2.2.2.1 (2 * e)) + (B.2.2.2.1 ((2 * e) + 1))))))] := hD
  exact pq_vret hQ hx hb hr hlocks hK hS hP hD dX0_tellAnew_96 (by omega) (by omega) (⟨rfl, rfl⟩)
end
section
set_option maxHeartbeats 4000000 in
set_option maxRecDepth 100000 in
/-- a ceiling comes to an entry and to those below it -/
theorem mX0_pressFrom (l : Launch) (D : va_G) (cI : ClassId) (h a0 a1 a2 a3 a4 a5 : Nat) (fi la : Nat → Int32) (a b c0 : Int32) : ∀ (d : Nat) (B : BK) (e : Nat), e < 128 → 128 ≤ e * 2 ^ d → pq_M l yX0_pressFrom wsX0_pressFrom (d + 3) (64 + d * 25) 0 0 D [(cI, .int)] pq_0 (bkW h a0 a1 a2 a3 a4 a5 cI fi la B) [.ref h, .int (nI e), .int a, .int b, .int c0] (fun v w1 => v = none ∧ w1 = bkW h a0 a1 a2 a3 a4 a5 cI fi la (bPressFrom fi la a b c0 d B e)) := by
  intro d
  induction d with
  | zero =>
    intro B e he hd
    simp only [Nat.pow_zero, Nat.mul_one] at hd
    omega
  | succ d ih =>
    intro B e he hd
    refine pq_enter (cc := cX0_pressFrom) (maxL := 6) (ret := none) (by decide) rfl (Nat.le_of_ble_eq_true rfl) ?_
    intro p ev s m args below meth cd A ls Q H locs hx hb hr hml hts hown hlocks hnm hK hP hD hS hA hE hl hQ
    have hl : lv_has ls 6 [(0, .ref h), (1, .int (nI e)), (2, .int a), (3, .int b), (4, .int c0)] := hl
    have hP : va_P D vwCl [(h, .inr (0, [.ref a0, .ref a1, .ref a2, .ref a3, .ref a4, .ref a5, .int B.2.2.2.2.1, .int B.2.2.2.2.2.1, .int B.2.2.2.2.2.2])), (a0, .inl (cI, 128, .inl fi)), (a1, .inl (cI, 128, .inl la)), (a2, .inl (cI, 128, .inl B.1)), (a3, .inl (cI, 128, .inl B.2.1)), (a4, .inl (cI, 128, .inl B.2.2.1)), (a5, .inl (cI, 128, .inl B.2.2.2.1))] H := hP
    have hD : va_D A [(h, .inr (0, [.ref a0, .ref a1, .ref a2, .ref a3, .ref a4, .ref a5, .int B.2.2.2.2.1, .int B.2.2.2.2.2.1, .int B.2.2.2.2.2.2])), (a0, .inl (cI, 128, .inl fi)), (a1, .inl (cI, 128, .inl la)), (a2, .inl (cI, 128, .inl B.1)), (a3, .inl (cI, 128, .inl B.2.1)), (a4, .inl (cI, 128, .inl B.2.2.1)), (a5, .inl (cI, 128, .inl B.2.2.2.1))] := hD
    have hin_X0 : ∀ w ∈ wsX00, w ∈ wsX0_pressFrom := by decide +kernel
    have hf_PressedPlains_Book_18 := hts (.fieldLink RX0 18 "PressedPlains$Book" "greatest" "[I") (by decide +kernel)
    have hf_PressedPlains_Book_21 := hts (.fieldLink RX0 21 "PressedPlains$Book" "second" "[I") (by decide +kernel)
    refine lv_aload_n hx hb dX0_pressFrom_0 rfl (lv_at hl 0 rfl) ?_
    refine pq_callV (wr := []) (own := RX0) (nL := 6) (q0 := 0) (ci := 0) [0, 1, 2, 3, 4, 5, 6] [] [] (mX0_countVisit l D cI h a0 a1 a2 a3 a4 a5 fi la B ) ⟨hx, hb, hml, hown, hts⟩ (cwV 0 hts gX0_pressFrom_X0_countVisit rfl rfl rfl (by decide +kernel) ⟨by dsimp only [pq_R]; omega, by dsimp only [pq_R]; omega⟩) pq_bl0 (fun _ _ _ => trivial) hK hP hD hS hA rfl (by decide) rfl (by decide) (by decide) rfl rfl rfl rfl hl.1 rfl (Nat.le_of_ble_eq_true rfl) dX0_pressFrom_1 ⟨by dsimp only [pq_R]; omega, by dsimp only [pq_R]; omega⟩ (fun v w1 H locs hq hP hD hS hz => ?_)
    obtain ⟨rfl, rfl⟩ := hq
    obtain ⟨B_1, hB_1⟩ : ∃ zz, zz = bVisit B := ⟨_, rfl⟩
    rw [← hB_1] at hP hD
    have hP : va_P D vwCl [(h, .inr (0, [.ref a0, .ref a1, .ref a2, .ref a3, .ref a4, .ref a5, .int B_1.2.2.2.2.1, .int B_1.2.2.2.2.2.1, .int B_1.2.2.2.2.2.2])), (a0, .inl (cI, 128, .inl fi)), (a1, .inl (cI, 128, .inl la)), (a2, .inl (cI, 128, .inl B_1.1)), (a3, .inl (cI, 128, .inl B_1.2.1)), (a4, .inl (cI, 128, .inl B_1.2.2.1)), (a5, .inl (cI, 128, .inl B_1.2.2.2.1))] H := hP
    have hD : va_D A [(h, .inr (0, [.ref a0, .ref a1, .ref a2, .ref a3, .ref a4, .ref a5, .int B_1.2.2.2.2.1, .int B_1.2.2.2.2.2.1, .int B_1.2.2.2.2.2.2])), (a0, .inl (cI, 128, .inl fi)), (a1, .inl (cI, 128, .inl la)), (a2, .inl (cI, 128, .inl B_1.1)), (a3, .inl (cI, 128, .inl B_1.2.1)), (a4, .inl (cI, 128, .inl B_1.2.2.1)), (a5, .inl (cI, 128, .inl B_1.2.2.2.1))] := hD
    refine W.eq (g2 := F0 m 4 ls []) rfl ?_
    refine lv_aload_n hx hb dX0_pressFrom_4 rfl (lv_at hl 0 rfl) ?_
    refine lv_iload_n hx hb dX0_pressFrom_5 rfl (lv_at hl 1 rfl) ?_
    refine lv_iload_n hx hb dX0_pressFrom_6 rfl (lv_at hl 2 rfl) ?_
    refine lv_iload_n hx hb dX0_pressFrom_7 rfl (lv_at hl 3 rfl) ?_
    refine pq_callV (wr := []) (own := RX0) (nL := 6) (q0 := 0) (ci := 0) [0, 1, 2, 3, 4, 5, 6] [] [.int (nI e), .int a, .int b] (mX0_isApart l D cI h a0 a1 a2 a3 a4 a5 fi la B_1 e a b (by omega)) ⟨hx, hb, hml, hown, hts⟩ (cwV 3 hts gX0_pressFrom_X0_isApart rfl rfl rfl (by decide +kernel) ⟨by dsimp only [pq_R]; omega, by dsimp only [pq_R]; omega⟩) pq_bl0 (fun _ _ _ => trivial) hK hP hD hS hA rfl (by decide) rfl (by decide) (by decide) rfl rfl rfl rfl hl.1 rfl (Nat.le_of_ble_eq_true rfl) dX0_pressFrom_8 ⟨by dsimp only [pq_R]; omega, by dsimp only [pq_R]; omega⟩ (fun v w1 H locs hq hP hD hS hz => ?_)
    obtain ⟨rfl, rfl⟩ := hq
    have hP : va_P D vwCl [(h, .inr (0, [.ref a0, .ref a1, .ref a2, .ref a3, .ref a4, .ref a5, .int B_1.2.2.2.2.1, .int B_1.2.2.2.2.2.1, .int B_1.2.2.2.2.2.2])), (a0, .inl (cI, 128, .inl fi)), (a1, .inl (cI, 128, .inl la)), (a2, .inl (cI, 128, .inl B_1.1)), (a3, .inl (cI, 128, .inl B_1.2.1)), (a4, .inl (cI, 128, .inl B_1.2.2.1)), (a5, .inl (cI, 128, .inl B_1.2.2.2.1))] H := hP
    have hD : va_D A [(h, .inr (0, [.ref a0, .ref a1, .ref a2, .ref a3, .ref a4, .ref a5, .int B_1.2.2.2.2.1, .int B_1.2.2.2.2.2.1, .int B_1.2.2.2.2.2.2])), (a0, .inl (cI, 128, .inl fi)), (a1, .inl (cI, 128, .inl la)), (a2, .inl (cI, 128, .inl B_1.1)), (a3, .inl (cI, 128, .inl B_1.2.1)), (a4, .inl (cI, 128, .inl B_1.2.2.1)), (a5, .inl (cI, 128, .inl B_1.2.2.2.1))] := hD
    by_cases b_2 : bAp fi la e a b
    · rw [if_pos b_2]
      refine W.eq (g2 := F0 m 11 ls [.int 1]) rfl ?_
      refine lv_if_ne (tgt := 25) hx hb dX0_pressFrom_11 (by decide) (fun _ => ?_) (fun c9 => absurd c9 (by decide))
      exact pq_vret hQ hx hb hr hlocks hK hS hP hD dX0_pressFrom_25 (by omega) (by omega) (⟨rfl, by subst hB_1; rw [bPressFrom, if_pos (Or.inl b_2)] <;> rfl⟩)
    · rw [if_neg b_2]
      refine W.eq (g2 := F0 m 11 ls [.int 0]) rfl ?_
      refine lv_if_ne (tgt := 25) hx hb dX0_pressFrom_11 (by decide) (fun c9 => absurd c9 (by decide)) (fun _ => ?_)
      refine lv_aload_n hx hb dX0_pressFrom_14 rfl (lv_at hl 0 rfl) ?_
      refine va_get (D := D) (ci := 0) (v := .ref a2) (C := RX0) (T := TX0) (N := 9) hx hb hts hin_X0 hown hK hP 0 rfl rfl 2 (by decide) hf_PressedPlains_Book_18 (fun _ h9 => h9) rfl dX0_pressFrom_15 ?_
      refine lv_iload_n hx hb dX0_pressFrom_18 rfl (lv_at hl 1 rfl) ?_
      refine pq_iald hx hb hK hP 3 0 rfl rfl e (by omega) (by decide) dX0_pressFrom_19 ?_
      refine lv_iload hx hb dX0_pressFrom_20 (lv_at hl 4 rfl) ?_
      refine lv_icmp_gt (tgt := 26) hx hb dX0_pressFrom_22 (by decide) (fun c_3 => ?_) (fun c_3 => ?_)
      · have J : ∀ (v : Int32), v = (if bWi fi la e a b ∧ ¬ c0 ≤ B_1.2.1 e then 1 else 0) → ∀ (H : Heap) (locs : List Loc) (ls : Array Slot), va_P D vwCl [(h, .inr (0, [.ref a0, .ref a1, .ref a2, .ref a3, .ref a4, .ref a5, .int B_1.2.2.2.2.1, .int B_1.2.2.2.2.2.1, .int B_1.2.2.2.2.2.2])), (a0, .inl (cI, 128, .inl fi)), (a1, .inl (cI, 128, .inl la)), (a2, .inl (cI, 128, .inl B_1.1)), (a3, .inl (cI, 128, .inl B_1.2.1)), (a4, .inl (cI, 128, .inl B_1.2.2.1)), (a5, .inl (cI, 128, .inl B_1.2.2.2.1))] H → va_D A [(h, .inr (0, [.ref a0, .ref a1, .ref a2, .ref a3, .ref a4, .ref a5, .int B_1.2.2.2.2.1, .int B_1.2.2.2.2.2.1, .int B_1.2.2.2.2.2.2])), (a0, .inl (cI, 128, .inl fi)), (a1, .inl (cI, 128, .inl la)), (a2, .inl (cI, 128, .inl B_1.1)), (a3, .inl (cI, 128, .inl B_1.2.1)), (a4, .inl (cI, 128, .inl B_1.2.2.1)), (a5, .inl (cI, 128, .inl B_1.2.2.2.1))] → va_S A s.heap H locs → lv_has ls 6 [(0, .ref h), (1, .int (nI e)), (2, .int a), (3, .int b), (4, .int c0)] → W p l ev (pq_R (d + 1 + 3) (64 + (d + 1) * 25) 0 0) s m args below meth cd H locs 0 0 Q (F0 m 52 ls [.int v]) := by
          intro v hv H locs ls hP hD hS hl
          by_cases j_4 : bWi fi la e a b ∧ ¬ c0 ≤ B_1.2.1 e
          · rw [if_pos j_4] at hv
            subst hv
            refine lv_istore (lv' := [(5, .int 1), (0, .ref h), (1, .int (nI e)), (2, .int a), (3, .int b), (4, .int c0)]) hx hb dX0_pressFrom_52 hl (by decide) rfl (fun ls hl => ?_)
            refine lv_iload hx hb dX0_pressFrom_54 (lv_at hl 0 rfl) ?_
            refine lv_if_ne (tgt := 67) hx hb dX0_pressFrom_56 (by decide) (fun _ => ?_) (fun c9 => absurd c9 (by decide))
            refine lv_aload_n hx hb dX0_pressFrom_67 rfl (lv_at hl 1 rfl) ?_
            refine lv_iload_n hx hb dX0_pressFrom_68 rfl (lv_at hl 2 rfl) ?_
            refine lv_iload hx hb dX0_pressFrom_69 (lv_at hl 5 rfl) ?_
            refine pq_callV (wr := []) (own := RX0) (nL := 6) (q0 := 0) (ci := 0) [0, 1, 2, 3, 4, 5, 6] [] [.int (nI e), .int c0] (mX0_pressDown l D cI h a0 a1 a2 a3 a4 a5 fi la B_1 e c0 (by omega)) ⟨hx, hb, hml, hown, hts⟩ (cwV 2 hts gX0_pressFrom_X0_pressDown rfl rfl rfl (by decide +kernel) ⟨by dsimp only [pq_R]; omega, by dsimp only [pq_R]; omega⟩) pq_bl0 (fun _ _ _ => trivial) hK hP hD hS hA rfl (by decide) rfl (by decide) (by decide) rfl rfl rfl rfl hl.1 rfl (Nat.le_of_ble_eq_true rfl) dX0_pressFrom_71 ⟨by dsimp only [pq_R]; omega, by dsimp only [pq_R]; omega⟩ (fun v w1 H locs hq hP hD hS hz => ?_)
            obtain ⟨rfl, rfl⟩ := hq
            obtain ⟨B_5, hB_5⟩ : ∃ zz, zz = bPress B_1 e c0 := ⟨_, rfl⟩
            rw [← hB_5] at hP hD
            have hP : va_P D vwCl [(h, .inr (0, [.ref a0, .ref a1, .ref a2, .ref a3, .ref a4, .ref a5, .int B_5.2.2.2.2.1, .int B_5.2.2.2.2.2.1, .int B_5.2.2.2.2.2.2])), (a0, .inl (cI, 128, .inl fi)), (a1, .inl (cI, 128, .inl la)), (a2, .inl (cI, 128, .inl B_5.1)), (a3, .inl (cI, 128, .inl B_5.2.1)), (a4, .inl (cI, 128, .inl B_5.2.2.1)), (a5, .inl (cI, 128, .inl B_5.2.2.2.1))] H := hP
            have hD : va_D A [(h, .inr (0, [.ref a0, .ref a1, .ref a2, .ref a3, .ref a4, .ref a5, .int B_5.2.2.2.2.1, .int B_5.2.2.2.2.2.1, .int B_5.2.2.2.2.2.2])), (a0, .inl (cI, 128, .inl fi)), (a1, .inl (cI, 128, .inl la)), (a2, .inl (cI, 128, .inl B_5.1)), (a3, .inl (cI, 128, .inl B_5.2.1)), (a4, .inl (cI, 128, .inl B_5.2.2.1)), (a5, .inl (cI, 128, .inl B_5.2.2.2.1))] := hD
            refine W.eq (g2 := F0 m 74 ls []) rfl ?_
            exact pq_vret hQ hx hb hr hlocks hK hS hP hD dX0_pressFrom_74 (by omega) (by omega) (⟨rfl, by subst hB_5; subst hB_1; rw [bPressFrom, if_neg (fun h => h.elim b_2 (fun h => h c_3)), if_pos (Or.inl j_4)] <;> rfl⟩)
          · rw [if_neg j_4] at hv
            subst hv
            refine lv_istore (lv' := [(5, .int 0), (0, .ref h), (1, .int (nI e)), (2, .int a), (3, .int b), (4, .int c0)]) hx hb dX0_pressFrom_52 hl (by decide) rfl (fun ls hl => ?_)
            refine lv_iload hx hb dX0_pressFrom_54 (lv_at hl 0 rfl) ?_
            refine lv_if_ne (tgt := 67) hx hb dX0_pressFrom_56 (by decide) (fun c9 => absurd c9 (by decide)) (fun _ => ?_)
            refine lv_aload_n hx hb dX0_pressFrom_59 rfl (lv_at hl 1 rfl) ?_
            refine lv_iload_n hx hb dX0_pressFrom_60 rfl (lv_at hl 2 rfl) ?_
            refine pq_callV (wr := []) (own := RX0) (nL := 6) (q0 := 0) (ci := 0) [0, 1, 2, 3, 4, 5, 6] [] [.int (nI e)] (mX0_hasParts l D cI h a0 a1 a2 a3 a4 a5 fi la B_1 e (by omega)) ⟨hx, hb, hml, hown, hts⟩ (cwV 1 hts gX0_pressFrom_X0_hasParts rfl rfl rfl (by decide +kernel) ⟨by dsimp only [pq_R]; omega, by dsimp only [pq_R]; omega⟩) pq_bl0 (fun _ _ _ => trivial) hK hP hD hS hA rfl (by decide) rfl (by decide) (by decide) rfl rfl rfl rfl hl.1 rfl (Nat.le_of_ble_eq_true rfl) dX0_pressFrom_61 ⟨by dsimp only [pq_R]; omega, by dsimp only [pq_R]; omega⟩ (fun v w1 H locs hq hP hD hS hz => ?_)
            obtain ⟨rfl, rfl⟩ := hq
            have hP : va_P D vwCl [(h, .inr (0, [.ref a0, .ref a1, .ref a2, .ref a3, .ref a4, .ref a5, .int B_1.2.2.2.2.1, .int B_1.2.2.2.2.2.1, .int B_1.2.2.2.2.2.2])), (a0, .inl (cI, 128, .inl fi)), (a1, .inl (cI, 128, .inl la)), (a2, .inl (cI, 128, .inl B_1.1)), (a3, .inl (cI, 128, .inl B_1.2.1)), (a4, .inl (cI, 128, .inl B_1.2.2.1)), (a5, .inl (cI, 128, .inl B_1.2.2.2.1))] H := hP
            have hD : va_D A [(h, .inr (0, [.ref a0, .ref a1, .ref a2, .ref a3, .ref a4, .ref a5, .int B_1.2.2.2.2.1, .int B_1.2.2.2.2.2.1, .int B_1.2.2.2.2.2.2])), (a0, .inl (cI, 128, .inl fi)), (a1, .inl (cI, 128, .inl la)), (a2, .inl (cI, 128, .inl B_1.1)), (a3, .inl (cI, 128, .inl B_1.2.1)), (a4, .inl (cI, 128, .inl B_1.2.2.1)), (a5, .inl (cI, 128, .inl B_1.2.2.2.1))] := hD
            by_cases b_6 : bHp fi la e
            · have he64 : e < 64 := bHp_lt (by omega) b_6
              rw [if_pos b_6]
              refine W.eq (g2 := F0 m 64 ls [.int 1]) rfl ?_
              refine lv_if_ne (tgt := 75) hx hb dX0_pressFrom_64 (by decide) (fun _ => ?_) (fun c9 => absurd c9 (by decide))
              refine lv_aload_n hx hb dX0_pressFrom_75 rfl (lv_at hl 1 rfl) ?_
              refine lv_iload_n hx hb dX0_pressFrom_76 rfl (lv_at hl 2 rfl) ?_
              refine pq_callV (wr := []) (own := RX0) (nL := 6) (q0 := 0) (ci := 0) [0, 1, 2, 3, 4, 5, 6] [] [.int (nI e)] (mX0_catchUpBelow l D cI h a0 a1 a2 a3 a4 a5 fi la B_1 e (by omega)) ⟨hx, hb, hml, hown, hts⟩ (cwV 1 hts gX0_pressFrom_X0_catchUpBelow rfl rfl rfl (by decide +kernel) ⟨by dsimp only [pq_R]; omega, by dsimp only [pq_R]; omega⟩) pq_bl0 (fun _ _ _ => trivial) hK hP hD hS hA rfl (by decide) rfl (by decide) (by decide) rfl rfl rfl rfl hl.1 rfl (Nat.le_of_ble_eq_true rfl) dX0_pressFrom_77 ⟨by dsimp only [pq_R]; omega, by dsimp only [pq_R]; omega⟩ (fun v w1 H locs hq hP hD hS hz => ?_)
              obtain ⟨rfl, rfl⟩ := hq
              obtain ⟨B_7, hB_7⟩ : ∃ zz, zz = bCatch2 B_1 e := ⟨_, rfl⟩
              rw [← hB_7] at hP hD
              have hP : va_P D vwCl [(h, .inr (0, [.ref a0, .ref a1, .ref a2, .ref a3, .ref a4, .ref a5, .int B_7.2.2.2.2.1, .int B_7.2.2.2.2.2.1, .int B_7.2.2.2.2.2.2])), (a0, .inl (cI, 128, .inl fi)), (a1, .inl (cI, 128, .inl la)), (a2, .inl (cI, 128, .inl B_7.1)), (a3, .inl (cI, 128, .inl B_7.2.1)), (a4, .inl (cI, 128, .inl B_7.2.2.1)), (a5, .inl (cI, 128, .inl B_7.2.2.2.1))] H := hP
              have hD : va_D A [(h, .inr (0, [.ref a0, .ref a1, .ref a2, .ref a3, .ref a4, .ref a5, .int B_7.2.2.2.2.1, .int B_7.2.2.2.2.2.1, .int B_7.2.2.2.2.2.2])), (a0, .inl (cI, 128, .inl fi)), (a1, .inl (cI, 128, .inl la)), (a2, .inl (cI, 128, .inl B_7.1)), (a3, .inl (cI, 128, .inl B_7.2.1)), (a4, .inl (cI, 128, .inl B_7.2.2.1)), (a5, .inl (cI, 128, .inl B_7.2.2.2.1))] := hD
              refine W.eq (g2 := F0 m 80 ls []) rfl ?_
              refine lv_aload_n hx hb dX0_pressFrom_80 rfl (lv_at hl 1 rfl) ?_
              refine lv_iconst (v := 2) hx hb dX0_pressFrom_81 (by decide) ?_
              refine lv_iload_n hx hb dX0_pressFrom_82 rfl (lv_at hl 2 rfl) ?_
              refine lv_imul hx hb dX0_pressFrom_83 ?_
              refine pq_top (nI (2 * e)) (pk_mul 2 _) ?_
              refine lv_iload_n hx hb dX0_pressFrom_84 rfl (lv_at hl 3 rfl) ?_
              refine lv_iload_n hx hb dX0_pressFrom_85 rfl (lv_at hl 4 rfl) ?_
              refine lv_iload hx hb dX0_pressFrom_86 (lv_at hl 5 rfl) ?_
              refine pq_callV (wr := []) (own := RX0) (nL := 6) (q0 := 0) (ci := 0) [0, 1, 2, 3, 4, 5, 6] [] [.int (nI (2 * e)), .int a, .int b, .int c0] (ih B_7 (2 * e) (by omega) (pw_1 hd)) ⟨hx, hb, hml, hown, hts⟩ (cwV 4 hts gX0_pressFrom_X0_pressFrom rfl rfl rfl (by decide +kernel) ⟨by dsimp only [pq_R]; omega, by dsimp only [pq_R]; omega⟩) pq_bl0 (fun _ _ _ => trivial) hK hP hD hS hA rfl (by decide) rfl (by decide) (by decide) rfl rfl rfl rfl hl.1 rfl (Nat.le_of_ble_eq_true rfl) dX0_pressFrom_88 ⟨by dsimp only [pq_R]; omega, by dsimp only [pq_R]; omega⟩ (fun v w1 H locs hq hP hD hS hz => ?_)
              obtain ⟨rfl, rfl⟩ := hq
              obtain ⟨B_8, hB_8⟩ : ∃ zz, zz = bPressFrom fi la a b c0 d B_7 (2 * e) := ⟨_, rfl⟩
              rw [← hB_8] at hP hD
              have hP : va_P D vwCl [(h, .inr (0, [.ref a0, .ref a1, .ref a2, .ref a3, .ref a4, .ref a5, .int B_8.2.2.2.2.1, .int B_8.2.2.2.2.2.1, .int B_8.2.2.2.2.2.2])), (a0, .inl (cI, 128, .inl fi)), (a1, .inl (cI, 128, .inl la)), (a2, .inl (cI, 128, .inl B_8.1)), (a3, .inl (cI, 128, .inl B_8.2.1)), (a4, .inl (cI, 128, .inl B_8.2.2.1)), (a5, .inl (cI, 128, .inl B_8.2.2.2.1))] H := hP
              have hD : va_D A [(h, .inr (0, [.ref a0, .ref a1, .ref a2, .ref a3, .ref a4, .ref a5, .int B_8.2.2.2.2.1, .int B_8.2.2.2.2.2.1, .int B_8.2.2.2.2.2.2])), (a0, .inl (cI, 128, .inl fi)), (a1, .inl (cI, 128, .inl la)), (a2, .inl (cI, 128, .inl B_8.1)), (a3, .inl (cI, 128, .inl B_8.2.1)), (a4, .inl (cI, 128, .inl B_8.2.2.1)), (a5, .inl (cI, 128, .inl B_8.2.2.2.1))] := hD
              refine W.eq (g2 := F0 m 91 ls []) rfl ?_
              refine lv_aload_n hx hb dX0_pressFrom_91 rfl (lv_at hl 1 rfl) ?_
              refine lv_iconst (v := 2) hx hb dX0_pressFrom_92 (by decide) ?_
              refine lv_iload_n hx hb dX0_pressFrom_93 rfl (lv_at hl 2 rfl) ?_
              refine lv_imul hx hb dX0_pressFrom_94 ?_
              refine pq_top (nI (2 * e)) (pk_mul 2 _) ?_
              refine lv_iconst (v := 1) hx hb dX0_pressFrom_95 (by decide) ?_
              refine lv_iadd hx hb dX0_pressFrom_96 ?_
              refine pq_top (nI ((2 * e) + 1)) (nI_1 _) ?_
              refine lv_iload_n hx hb dX0_pressFrom_97 rfl (lv_at hl 3 rfl) ?_
              refine lv_iload_n hx hb dX0_pressFrom_98 rfl (lv_at hl 4 rfl) ?_
              refine lv_iload hx hb dX0_pressFrom_99 (lv_at hl 5 rfl) ?_
              refine pq_callV (wr := []) (own := RX0) (nL := 6) (q0 := 0) (ci := 0) [0, 1, 2, 3, 4, 5, 6] [] [.int (nI ((2 * e) + 1)), .int a, .int b, .int c0] (ih B_8 ((2 * e) + 1) (by omega) (pw_2 hd)) ⟨hx, hb, hml, hown, hts⟩ (cwV 4 hts gX0_pressFrom_X0_pressFrom rfl rfl rfl (by decide +kernel) ⟨by dsimp only [pq_R]; omega, by dsimp only [pq_R]; omega⟩) pq_bl0 (fun _ _ _ => trivial) hK hP hD hS hA rfl (by decide) rfl (by decide) (by decide) rfl rfl rfl rfl hl.1 rfl (Nat.le_of_ble_eq_true rfl) dX0_pressFrom_101 ⟨by dsimp only [pq_R]; omega, by dsimp only [pq_R]; omega⟩ (fun v w1 H locs hq hP hD hS hz => ?_)
              obtain ⟨rfl, rfl⟩ := hq
              obtain ⟨B_9, hB_9⟩ : ∃ zz, zz = bPressFrom fi la a b c0 d B_8 ((2 * e) + 1) := ⟨_, rfl⟩
              rw [← hB_9] at hP hD
              have hP : va_P D vwCl [(h, .inr (0, [.ref a0, .ref a1, .ref a2, .ref a3, .ref a4, .ref a5, .int B_9.2.2.2.2.1, .int B_9.2.2.2.2.2.1, .int B_9.2.2.2.2.2.2])), (a0, .inl (cI, 128, .inl fi)), (a1, .inl (cI, 128, .inl la)), (a2, .inl (cI, 128, .inl B_9.1)), (a3, .inl (cI, 128, .inl B_9.2.1)), (a4, .inl (cI, 128, .inl B_9.2.2.1)), (a5, .inl (cI, 128, .inl B_9.2.2.2.1))] H := hP
              have hD : va_D A [(h, .inr (0, [.ref a0, .ref a1, .ref a2, .ref a3, .ref a4, .ref a5, .int B_9.2.2.2.2.1, .int B_9.2.2.2.2.2.1, .int B_9.2.2.2.2.2.2])), (a0, .inl (cI, 128, .inl fi)), (a1, .inl (cI, 128, .inl la)), (a2, .inl (cI, 128, .inl B_9.1)), (a3, .inl (cI, 128, .inl B_9.2.1)), (a4, .inl (cI, 128, .inl B_9.2.2.1)), (a5, .inl (cI, 128, .inl B_9.2.2.2.1))] := hD
              refine W.eq (g2 := F0 m 104 ls []) rfl ?_
              refine lv_aload_n hx hb dX0_pressFrom_104 rfl (lv_at hl 1 rfl) ?_
              refine lv_iload_n hx hb dX0_pressFrom_105 rfl (lv_at hl 2 rfl) ?_
              refine pq_callV (wr := []) (own := RX0) (nL := 6) (q0 := 0) (ci := 0) [0, 1, 2, 3, 4, 5, 6] [] [.int (nI e)] (mX0_tellAnew l D cI h a0 a1 a2 a3 a4 a5 fi la B_9 e (by omega)) ⟨hx, hb, hml, hown, hts⟩ (cwV 1 hts gX0_pressFrom_X0_tellAnew rfl rfl rfl (by decide +kernel) ⟨by dsimp only [pq_R]; omega, by dsimp only [pq_R]; omega⟩) pq_bl0 (fun _ _ _ => trivial) hK hP hD hS hA rfl (by decide) rfl (by decide) (by decide) rfl rfl rfl rfl hl.1 rfl (Nat.le_of_ble_eq_true rfl) dX0_pressFrom_106 ⟨by dsimp only [pq_R]; omega, by dsimp only [pq_R]; omega⟩ (fun v w1 H locs hq hP hD hS hz => ?_)
              obtain ⟨rfl, rfl⟩ := hq
              obtain ⟨B_10, hB_10⟩ : ∃ zz, zz = bTell B_9 e := ⟨_, rfl⟩
              rw [← hB_10] at hP hD
              have hP : va_P D vwCl [(h, .inr (0, [.ref a0, .ref a1, .ref a2, .ref a3, .ref a4, .ref a5, .int B_10.2.2.2.2.1, .int B_10.2.2.2.2.2.1, .int B_10.2.2.2.2.2.2])), (a0, .inl (cI, 128, .inl fi)), (a1, .inl (cI, 128, .inl la)), (a2, .inl (cI, 128, .inl B_10.1)), (a3, .inl (cI, 128, .inl B_10.2.1)), (a4, .inl (cI, 128, .inl B_10.2.2.1)), (a5, .inl (cI, 128, .inl B_10.2.2.2.1))] H := hP
              have hD : va_D A [(h, .inr (0, [.ref a0, .ref a1, .ref a2, .ref a3, .ref a4, .ref a5, .int B_10.2.2.2.2.1, .int B_10.2.2.2.2.2.1, .int B_10.2.2.2.2.2.2])), (a0, .inl (cI, 128, .inl fi)), (a1, .inl (cI, 128, .inl la)), (a2, .inl (cI, 128, .inl B_10.1)), (a3, .inl (cI, 128, .inl B_10.2.1)), (a4, .inl (cI, 128, .inl B_10.2.2.1)), (a5, .inl (cI, 128, .inl B_10.2.2.2.1))] := hD
              refine W.eq (g2 := F0 m 109 ls []) rfl ?_
              exact pq_vret hQ hx hb hr hlocks hK hS hP hD dX0_pressFrom_109 (by omega) (by omega) (⟨rfl, by subst hB_10; subst hB_9; subst hB_8; subst hB_7; subst hB_1; rw [bPressFrom, if_neg (fun h => h.elim b_2 (fun h => h c_3)), if_neg (fun h => h.elim j_4 (fun h => h b_6))] <;> rfl⟩)
            · rw [if_neg b_6]
              refine W.eq (g2 := F0 m 64 ls [.int 0]) rfl ?_
              refine lv_if_ne (tgt := 75) hx hb dX0_pressFrom_64 (by decide) (fun c9 => absurd c9 (by decide)) (fun _ => ?_)
              refine lv_aload_n hx hb dX0_pressFrom_67 rfl (lv_at hl 1 rfl) ?_
              refine lv_iload_n hx hb dX0_pressFrom_68 rfl (lv_at hl 2 rfl) ?_
              refine lv_iload hx hb dX0_pressFrom_69 (lv_at hl 5 rfl) ?_
              refine pq_callV (wr := []) (own := RX0) (nL := 6) (q0 := 0) (ci := 0) [0, 1, 2, 3, 4, 5, 6] [] [.int (nI e), .int c0] (mX0_pressDown l D cI h a0 a1 a2 a3 a4 a5 fi la B_1 e c0 (by omega)) ⟨hx, hb, hml, hown, hts⟩ (cwV 2 hts gX0_pressFrom_X0_pressDown rfl rfl rfl (by decide +kernel) ⟨by dsimp only [pq_R]; omega, by dsimp only [pq_R]; omega⟩) pq_bl0 (fun _ _ _ => trivial) hK hP hD hS hA rfl (by decide) rfl (by decide) (by decide) rfl rfl rfl rfl hl.1 rfl (Nat.le_of_ble_eq_true rfl) dX0_pressFrom_71 ⟨by dsimp only [pq_R]; omega, by dsimp only [pq_R]; omega⟩ (fun v w1 H locs hq hP hD hS hz => ?_)
              obtain ⟨rfl, rfl⟩ := hq
              obtain ⟨B_11, hB_11⟩ : ∃ zz, zz = bPress B_1 e c0 := ⟨_, rfl⟩
              rw [← hB_11] at hP hD
              have hP : va_P D vwCl [(h, .inr (0, [.ref a0, .ref a1, .ref a2, .ref a3, .ref a4, .ref a5, .int B_11.2.2.2.2.1, .int B_11.2.2.2.2.2.1, .int B_11.2.2.2.2.2.2])), (a0, .inl (cI, 128, .inl fi)), (a1, .inl (cI, 128, .inl la)), (a2, .inl (cI, 128, .inl B_11.1)), (a3, .inl (cI, 128, .inl B_11.2.1)), (a4, .inl (cI, 128, .inl B_11.2.2.1)), (a5, .inl (cI, 128, .inl B_11.2.2.2.1))] H := hP
              have hD : va_D A [(h, .inr (0, [.ref a0, .ref a1, .ref a2, .ref a3, .ref a4, .ref a5, .int B_11.2.2.2.2.1, .int B_11.2.2.2.2.2.1, .int B_11.2.2.2.2.2.2])), (a0, .inl (cI, 128, .inl fi)), (a1, .inl (cI, 128, .inl la)), (a2, .inl (cI, 128, .inl B_11.1)), (a3, .inl (cI, 128, .inl B_11.2.1)), (a4, .inl (cI, 128, .inl B_11.2.2.1)), (a5, .inl (cI, 128, .inl B_11.2.2.2.1))] := hD
              refine W.eq (g2 := F0 m 74 ls []) rfl ?_
              exact pq_vret hQ hx hb hr hlocks hK hS hP hD dX0_pressFrom_74 (by omega) (by omega) (⟨rfl, by subst hB_11; subst hB_1; rw [bPressFrom, if_neg (fun h => h.elim b_2 (fun h => h c_3)), if_pos (Or.inr b_6)] <;> rfl⟩)
        refine lv_aload_n hx hb dX0_pressFrom_26 rfl (lv_at hl 0 rfl) ?_
        refine lv_iload_n hx hb dX0_pressFrom_27 rfl (lv_at hl 1 rfl) ?_
        refine lv_iload_n hx hb dX0_pressFrom_28 rfl (lv_at hl 2 rfl) ?_
        refine lv_iload_n hx hb dX0_pressFrom_29 rfl (lv_at hl 3 rfl) ?_
        refine pq_callV (wr := []) (own := RX0) (nL := 6) (q0 := 0) (ci := 0) [0, 1, 2, 3, 4, 5, 6] [] [.int (nI e), .int a, .int b] (mX0_isWithin l D cI h a0 a1 a2 a3 a4 a5 fi la B_1 e a b (by omega)) ⟨hx, hb, hml, hown, hts⟩ (cwV 3 hts gX0_pressFrom_X0_isWithin rfl rfl rfl (by decide +kernel) ⟨by dsimp only [pq_R]; omega, by dsimp only [pq_R]; omega⟩) pq_bl0 (fun _ _ _ => trivial) hK hP hD hS hA rfl (by decide) rfl (by decide) (by decide) rfl rfl rfl rfl hl.1 rfl (Nat.le_of_ble_eq_true rfl) dX0_pressFrom_30 ⟨by dsimp only [pq_R]; omega, by dsimp only [pq_R]; omega⟩ (fun v w1 H locs hq hP hD hS hz => ?_)
        obtain ⟨rfl, rfl⟩ := hq
        have hP : va_P D vwCl [(h, .inr (0, [.ref a0, .ref a1, .ref a2, .ref a3, .ref a4, .ref a5, .int B_1.2.2.2.2.1, .int B_1.2.2.2.2.2.1, .int B_1.2.2.2.2.2.2])), (a0, .inl (cI, 128, .inl fi)), (a1, .inl (cI, 128, .inl la)), (a2, .inl (cI, 128, .inl B_1.1)), (a3, .inl (cI, 128, .inl B_1.2.1)), (a4, .inl (cI, 128, .inl B_1.2.2.1)), (a5, .inl (cI, 128, .inl B_1.2.2.2.1))] H := hP
        have hD : va_D A [(h, .inr (0, [.ref a0, .ref a1, .ref a2, .ref a3, .ref a4, .ref a5, .int B_1.2.2.2.2.1, .int B_1.2.2.2.2.2.1, .int B_1.2.2.2.2.2.2])), (a0, .inl (cI, 128, .inl fi)), (a1, .inl (cI, 128, .inl la)), (a2, .inl (cI, 128, .inl B_1.1)), (a3, .inl (cI, 128, .inl B_1.2.1)), (a4, .inl (cI, 128, .inl B_1.2.2.1)), (a5, .inl (cI, 128, .inl B_1.2.2.2.1))] := hD
        by_cases b_12 : bWi fi la e a b
        · rw [if_pos b_12]
          refine W.eq (g2 := F0 m 33 ls [.int 1]) rfl ?_
          refine lv_if_eq (tgt := 51) hx hb dX0_pressFrom_33 (by decide) (fun c9 => absurd c9 (by decide)) (fun _ => ?_)
          refine lv_aload_n hx hb dX0_pressFrom_36 rfl (lv_at hl 0 rfl) ?_
          refine va_get (D := D) (ci := 0) (v := .ref a3) (C := RX0) (T := TX0) (N := 9) hx hb hts hin_X0 hown hK hP 0 rfl rfl 3 (by decide) hf_PressedPlains_Book_21 (fun _ h9 => h9) rfl dX0_pressFrom_37 ?_
          refine lv_iload_n hx hb dX0_pressFrom_40 rfl (lv_at hl 1 rfl) ?_
          refine pq_iald hx hb hK hP 4 0 rfl rfl e (by omega) (by decide) dX0_pressFrom_41 ?_
          refine lv_iload hx hb dX0_pressFrom_42 (lv_at hl 4 rfl) ?_
          refine lv_icmp_ge (tgt := 51) hx hb dX0_pressFrom_44 (by decide) (fun c_13 => ?_) (fun c_13 => ?_)
          · refine lv_iconst (v := 0) hx hb dX0_pressFrom_51 (by decide) ?_
            exact J _ (by rw [if_neg (show ¬ (bWi fi la e a b ∧ ¬ c0 ≤ B_1.2.1 e) from fun h => h.2 c_13)]) H locs ls hP hD hS hl
          · refine lv_iconst (v := 1) hx hb dX0_pressFrom_47 (by decide) ?_
            refine lv_goto (tgt := 52) hx hb dX0_pressFrom_48 (by decide) ?_
            exact J _ (by rw [if_pos (show bWi fi la e a b ∧ ¬ c0 ≤ B_1.2.1 e from ⟨b_12, c_13⟩)]) H locs ls hP hD hS hl
        · rw [if_neg b_12]
          refine W.eq (g2 := F0 m 33 ls [.int 0]) rfl ?_
          refine lv_if_eq (tgt := 51) hx hb dX0_pressFrom_33 (by decide) (fun _ => ?_) (fun c9 => absurd c9 (by decide))
          refine lv_iconst (v := 0) hx hb dX0_pressFrom_51 (by decide) ?_
          exact J _ (by rw [if_neg (show ¬ (bWi fi la e a b ∧ ¬ c0 ≤ B_1.2.1 e) from fun h => b_12 h.1)]) H locs ls hP hD hS hl
      · exact pq_vret hQ hx hb hr hlocks hK hS hP hD dX0_pressFrom_25 (by omega) (by omega) (⟨rfl, by subst hB_1; rw [bPressFrom, if_pos (Or.inr c_3)] <;> rfl⟩)

set_option maxHeartbeats 4000000 in
set_option maxRecDepth 100000 in
theorem mX0_raiseFrom (l : Launch) (D : va_G) (cI : ClassId) (h a0 a1 a2 a3 a4 a5 : Nat) (fi la : Nat → Int32) (x v0 : Int32) : ∀ (d : Nat) (B : BK) (e : Nat), e < 128 → 128 ≤ e * 2 ^ d → pq_M l yX0_raiseFrom wsX0_raiseFrom (d + 3) (64 + d * 24) 0 0 D [(cI, .int)] pq_0 (bkW h a0 a1 a2 a3 a4 a5 cI fi la B) [.ref h, .int (nI e), .int x, .int v0] (fun v w1 => v = none ∧ w1 = bkW h a0 a1 a2 a3 a4 a5 cI fi la (bRaiseFrom fi la x v0 d B e)) := by
  intro d
  induction d with
  | zero =>
    intro B e he hd
    simp only [Nat.pow_zero, Nat.mul_one] at hd
    omega
  | succ d ih =>
    intro B e he hd
    refine pq_enter (cc := cX0_raiseFrom) (maxL := 5) (ret := none) (by decide) rfl (Nat.le_of_ble_eq_true rfl) ?_
    intro p ev s m args below meth cd A ls Q H locs hx hb hr hml hts hown hlocks hnm hK hP hD hS hA hE hl hQ
    have hl : lv_has ls 5 [(0, .ref h), (1, .int (nI e)), (2, .int x), (3, .int v0)] := hl
    have hP : va_P D vwCl [(h, .inr (0, [.ref a0, .ref a1, .ref a2, .ref a3, .ref a4, .ref a5, .int B.2.2.2.2.1, .int B.2.2.2.2.2.1, .int B.2.2.2.2.2.2])), (a0, .inl (cI, 128, .inl fi)), (a1, .inl (cI, 128, .inl la)), (a2, .inl (cI, 128, .inl B.1)), (a3, .inl (cI, 128, .inl B.2.1)), (a4, .inl (cI, 128, .inl B.2.2.1)), (a5, .inl (cI, 128, .inl B.2.2.2.1))] H := hP
    have hD : va_D A [(h, .inr (0, [.ref a0, .ref a1, .ref a2, .ref a3, .ref a4, .ref a5, .int B.2.2.2.2.1, .int B.2.2.2.2.2.1, .int B.2.2.2.2.2.2])), (a0, .inl (cI, 128, .inl fi)), (a1, .inl (cI, 128, .inl la)), (a2, .inl (cI, 128, .inl B.1)), (a3, .inl (cI, 128, .inl B.2.1)), (a4, .inl (cI, 128, .inl B.2.2.1)), (a5, .inl (cI, 128, .inl B.2.2.2.1))] := hD
    have hin_X0 : ∀ w ∈ wsX00, w ∈ wsX0_raiseFrom := by decide +kernel
    have hf_PressedPlains_Book_15 := hts (.fieldLink RX0 15 "PressedPlains$Book" "last" "[I") (by decide +kernel)
    have hf_PressedPlains_Book_18 := hts (.fieldLink RX0 18 "PressedPlains$Book" "greatest" "[I") (by decide +kernel)
    have hf_PressedPlains_Book_27 := hts (.fieldLink RX0 27 "PressedPlains$Book" "sum" "[I") (by decide +kernel)
    refine lv_aload_n hx hb dX0_raiseFrom_0 rfl (lv_at hl 0 rfl) ?_
    refine pq_callV (wr := []) (own := RX0) (nL := 5) (q0 := 0) (ci := 0) [0, 1, 2, 3, 4, 5, 6] [] [] (mX0_countVisit l D cI h a0 a1 a2 a3 a4 a5 fi la B ) ⟨hx, hb, hml, hown, hts⟩ (cwV 0 hts gX0_raiseFrom_X0_countVisit rfl rfl rfl (by decide +kernel) ⟨by dsimp only [pq_R]; omega, by dsimp only [pq_R]; omega⟩) pq_bl0 (fun _ _ _ => trivial) hK hP hD hS hA rfl (by decide) rfl (by decide) (by decide) rfl rfl rfl rfl hl.1 rfl (Nat.le_of_ble_eq_true rfl) dX0_raiseFrom_1 ⟨by dsimp only [pq_R]; omega, by dsimp only [pq_R]; omega⟩ (fun v w1 H locs hq hP hD hS hz => ?_)
    obtain ⟨rfl, rfl⟩ := hq
    obtain ⟨B_1, hB_1⟩ : ∃ zz, zz = bVisit B := ⟨_, rfl⟩
    rw [← hB_1] at hP hD
    have hP : va_P D vwCl [(h, .inr (0, [.ref a0, .ref a1, .ref a2, .ref a3, .ref a4, .ref a5, .int B_1.2.2.2.2.1, .int B_1.2.2.2.2.2.1, .int B_1.2.2.2.2.2.2])), (a0, .inl (cI, 128, .inl fi)), (a1, .inl (cI, 128, .inl la)), (a2, .inl (cI, 128, .inl B_1.1)), (a3, .inl (cI, 128, .inl B_1.2.1)), (a4, .inl (cI, 128, .inl B_1.2.2.1)), (a5, .inl (cI, 128, .inl B_1.2.2.2.1))] H := hP
    have hD : va_D A [(h, .inr (0, [.ref a0, .ref a1, .ref a2, .ref a3, .ref a4, .ref a5, .int B_1.2.2.2.2.1, .int B_1.2.2.2.2.2.1, .int B_1.2.2.2.2.2.2])), (a0, .inl (cI, 128, .inl fi)), (a1, .inl (cI, 128, .inl la)), (a2, .inl (cI, 128, .inl B_1.1)), (a3, .inl (cI, 128, .inl B_1.2.1)), (a4, .inl (cI, 128, .inl B_1.2.2.1)), (a5, .inl (cI, 128, .inl B_1.2.2.2.1))] := hD
    refine W.eq (g2 := F0 m 4 ls []) rfl ?_
    refine lv_aload_n hx hb dX0_raiseFrom_4 rfl (lv_at hl 0 rfl) ?_
    refine lv_iload_n hx hb dX0_raiseFrom_5 rfl (lv_at hl 1 rfl) ?_
    refine pq_callV (wr := []) (own := RX0) (nL := 5) (q0 := 0) (ci := 0) [0, 1, 2, 3, 4, 5, 6] [] [.int (nI e)] (mX0_hasParts l D cI h a0 a1 a2 a3 a4 a5 fi la B_1 e (by omega)) ⟨hx, hb, hml, hown, hts⟩ (cwV 1 hts gX0_raiseFrom_X0_hasParts rfl rfl rfl (by decide +kernel) ⟨by dsimp only [pq_R]; omega, by dsimp only [pq_R]; omega⟩) pq_bl0 (fun _ _ _ => trivial) hK hP hD hS hA rfl (by decide) rfl (by decide) (by decide) rfl rfl rfl rfl hl.1 rfl (Nat.le_of_ble_eq_true rfl) dX0_raiseFrom_6 ⟨by dsimp only [pq_R]; omega, by dsimp only [pq_R]; omega⟩ (fun v w1 H locs hq hP hD hS hz => ?_)
    obtain ⟨rfl, rfl⟩ := hq
    have hP : va_P D vwCl [(h, .inr (0, [.ref a0, .ref a1, .ref a2, .ref a3, .ref a4, .ref a5, .int B_1.2.2.2.2.1, .int B_1.2.2.2.2.2.1, .int B_1.2.2.2.2.2.2])), (a0, .inl (cI, 128, .inl fi)), (a1, .inl (cI, 128, .inl la)), (a2, .inl (cI, 128, .inl B_1.1)), (a3, .inl (cI, 128, .inl B_1.2.1)), (a4, .inl (cI, 128, .inl B_1.2.2.1)), (a5, .inl (cI, 128, .inl B_1.2.2.2.1))] H := hP
    have hD : va_D A [(h, .inr (0, [.ref a0, .ref a1, .ref a2, .ref a3, .ref a4, .ref a5, .int B_1.2.2.2.2.1, .int B_1.2.2.2.2.2.1, .int B_1.2.2.2.2.2.2])), (a0, .inl (cI, 128, .inl fi)), (a1, .inl (cI, 128, .inl la)), (a2, .inl (cI, 128, .inl B_1.1)), (a3, .inl (cI, 128, .inl B_1.2.1)), (a4, .inl (cI, 128, .inl B_1.2.2.1)), (a5, .inl (cI, 128, .inl B_1.2.2.2.1))] := hD
    by_cases b_2 : bHp fi la e
    · have he64 : e < 64 := bHp_lt (by omega) b_2
      rw [if_pos b_2]
      refine W.eq (g2 := F0 m 9 ls [.int 1]) rfl ?_
      refine lv_if_ne (tgt := 27) hx hb dX0_raiseFrom_9 (by decide) (fun _ => ?_) (fun c9 => absurd c9 (by decide))
      refine lv_aload_n hx hb dX0_raiseFrom_27 rfl (lv_at hl 0 rfl) ?_
      refine lv_iload_n hx hb dX0_raiseFrom_28 rfl (lv_at hl 1 rfl) ?_
      refine pq_callV (wr := []) (own := RX0) (nL := 5) (q0 := 0) (ci := 0) [0, 1, 2, 3, 4, 5, 6] [] [.int (nI e)] (mX0_catchUpBelow l D cI h a0 a1 a2 a3 a4 a5 fi la B_1 e (by omega)) ⟨hx, hb, hml, hown, hts⟩ (cwV 1 hts gX0_raiseFrom_X0_catchUpBelow rfl rfl rfl (by decide +kernel) ⟨by dsimp only [pq_R]; omega, by dsimp only [pq_R]; omega⟩) pq_bl0 (fun _ _ _ => trivial) hK hP hD hS hA rfl (by decide) rfl (by decide) (by decide) rfl rfl rfl rfl hl.1 rfl (Nat.le_of_ble_eq_true rfl) dX0_raiseFrom_29 ⟨by dsimp only [pq_R]; omega, by dsimp only [pq_R]; omega⟩ (fun v w1 H locs hq hP hD hS hz => ?_)
      obtain ⟨rfl, rfl⟩ := hq
      obtain ⟨B_3, hB_3⟩ : ∃ zz, zz = bCatch2 B_1 e := ⟨_, rfl⟩
      rw [← hB_3] at hP hD
      have hP : va_P D vwCl [(h, .inr (0, [.ref a0, .ref a1, .ref a2, .ref a3, .ref a4, .ref a5, .int B_3.2.2.2.2.1, .int B_3.2.2.2.2.2.1, .int B_3.2.2.2.2.2.2])), (a0, .inl (cI, 128, .inl fi)), (a1, .inl (cI, 128, .inl la)), (a2, .inl (cI, 128, .inl B_3.1)), (a3, .inl (cI, 128, .inl B_3.2.1)), (a4, .inl (cI, 128, .inl B_3.2.2.1)), (a5, .inl (cI, 128, .inl B_3.2.2.2.1))] H := hP
      have hD : va_D A [(h, .inr (0, [.ref a0, .ref a1, .ref a2, .ref a3, .ref a4, .ref a5, .int B_3.2.2.2.2.1, .int B_3.2.2.2.2.2.1, .int B_3.2.2.2.2.2.2])), (a0, .inl (cI, 128, .inl fi)), (a1, .inl (cI, 128, .inl la)), (a2, .inl (cI, 128, .inl B_3.1)), (a3, .inl (cI, 128, .inl B_3.2.1)), (a4, .inl (cI, 128, .inl B_3.2.2.1)), (a5, .inl (cI, 128, .inl B_3.2.2.2.1))] := hD
      refine W.eq (g2 := F0 m 32 ls []) rfl ?_
      by_cases q_4 : x ≤ la (2 * e)
      · refine lv_iload_n hx hb dX0_raiseFrom_32 rfl (lv_at hl 2 rfl) ?_
        refine lv_aload_n hx hb dX0_raiseFrom_33 rfl (lv_at hl 0 rfl) ?_
        refine va_get (D := D) (ci := 0) (v := .ref a1) (C := RX0) (T := TX0) (N := 9) hx hb hts hin_X0 hown hK hP 0 rfl rfl 1 (by decide) hf_PressedPlains_Book_15 (fun _ h9 => h9) rfl dX0_raiseFrom_34 ?_
        refine lv_iconst (v := 2) hx hb dX0_raiseFrom_37 (by decide) ?_
        refine lv_iload_n hx hb dX0_raiseFrom_38 rfl (lv_at hl 1 rfl) ?_
        refine lv_imul hx hb dX0_raiseFrom_39 ?_
        refine pq_top (nI (2 * e)) (pk_mul 2 _) ?_
        refine pq_iald hx hb hK hP 2 0 rfl rfl (2 * e) (by omega) (by decide) dX0_raiseFrom_40 ?_
        refine lv_icmp_gt (tgt := 48) hx hb dX0_raiseFrom_41 (by decide) (fun c9 => absurd c9 (i_nlt q_4)) (fun _ => ?_)
        refine lv_iconst (v := 1) hx hb dX0_raiseFrom_44 (by decide) ?_
        refine lv_goto (tgt := 49) hx hb dX0_raiseFrom_45 (by decide) ?_
        refine lv_istore (lv' := [(4, .int 1), (0, .ref h), (1, .int (nI e)), (2, .int x), (3, .int v0)]) hx hb dX0_raiseFrom_49 hl (by decide) rfl (fun ls hl => ?_)
        refine lv_aload_n hx hb dX0_raiseFrom_51 rfl (lv_at hl 1 rfl) ?_
        refine lv_iload hx hb dX0_raiseFrom_52 (lv_at hl 0 rfl) ?_
        refine lv_if_eq (tgt := 63) hx hb dX0_raiseFrom_54 (by decide) (fun c9 => absurd c9 (by decide)) (fun _ => ?_)
        refine lv_iconst (v := 2) hx hb dX0_raiseFrom_57 (by decide) ?_
        refine lv_iload_n hx hb dX0_raiseFrom_58 rfl (lv_at hl 2 rfl) ?_
        refine lv_imul hx hb dX0_raiseFrom_59 ?_
        refine pq_top (nI (2 * e)) (pk_mul 2 _) ?_
        refine lv_goto (tgt := 68) hx hb dX0_raiseFrom_60 (by decide) ?_
        refine lv_iload_n hx hb dX0_raiseFrom_68 rfl (lv_at hl 3 rfl) ?_
        refine lv_iload_n hx hb dX0_raiseFrom_69 rfl (lv_at hl 4 rfl) ?_
        refine pq_callV (wr := []) (own := RX0) (nL := 5) (q0 := 0) (ci := 0) [0, 1, 2, 3, 4, 5, 6] [] [.int (nI (2 * e)), .int x, .int v0] (ih B_3 (2 * e) (by omega) (pw_1 hd)) ⟨hx, hb, hml, hown, hts⟩ (cwV 3 hts gX0_raiseFrom_X0_raiseFrom rfl rfl rfl (by decide +kernel) ⟨by dsimp only [pq_R]; omega, by dsimp only [pq_R]; omega⟩) pq_bl0 (fun _ _ _ => trivial) hK hP hD hS hA rfl (by decide) rfl (by decide) (by decide) rfl rfl rfl rfl hl.1 rfl (Nat.le_of_ble_eq_true rfl) dX0_raiseFrom_70 ⟨by dsimp only [pq_R]; omega, by dsimp only [pq_R]; omega⟩ (fun v w1 H locs hq hP hD hS hz => ?_)
        obtain ⟨rfl, rfl⟩ := hq
        obtain ⟨B_5, hB_5⟩ : ∃ zz, zz = bRaiseFrom fi la x v0 d B_3 (2 * e) := ⟨_, rfl⟩
        rw [← hB_5] at hP hD
        have hP : va_P D vwCl [(h, .inr (0, [.ref a0, .ref a1, .ref a2, .ref a3, .ref a4, .ref a5, .int B_5.2.2.2.2.1, .int B_5.2.2.2.2.2.1, .int B_5.2.2.2.2.2.2])), (a0, .inl (cI, 128, .inl fi)), (a1, .inl (cI, 128, .inl la)), (a2, .inl (cI, 128, .inl B_5.1)), (a3, .inl (cI, 128, .inl B_5.2.1)), (a4, .inl (cI, 128, .inl B_5.2.2.1)), (a5, .inl (cI, 128, .inl B_5.2.2.2.1))] H := hP
        have hD : va_D A [(h, .inr (0, [.ref a0, .ref a1, .ref a2, .ref a3, .ref a4, .ref a5, .int B_5.2.2.2.2.1, .int B_5.2.2.2.2.2.1, .int B_5.2.2.2.2.2.2])), (a0, .inl (cI, 128, .inl fi)), (a1, .inl (cI, 128, .inl la)), (a2, .inl (cI, 128, .inl B_5.1)), (a3, .inl (cI, 128, .inl B_5.2.1)), (a4, .inl (cI, 128, .inl B_5.2.2.1)), (a5, .inl (cI, 128, .inl B_5.2.2.2.1))] := hD
        refine W.eq (g2 := F0 m 73 ls []) rfl ?_
        refine lv_aload_n hx hb dX0_raiseFrom_73 rfl (lv_at hl 1 rfl) ?_
        refine lv_iload_n hx hb dX0_raiseFrom_74 rfl (lv_at hl 2 rfl) ?_
        refine pq_callV (wr := []) (own := RX0) (nL := 5) (q0 := 0) (ci := 0) [0, 1, 2, 3, 4, 5, 6] [] [.int (nI e)] (mX0_tellAnew l D cI h a0 a1 a2 a3 a4 a5 fi la B_5 e (by omega)) ⟨hx, hb, hml, hown, hts⟩ (cwV 1 hts gX0_raiseFrom_X0_tellAnew rfl rfl rfl (by decide +kernel) ⟨by dsimp only [pq_R]; omega, by dsimp only [pq_R]; omega⟩) pq_bl0 (fun _ _ _ => trivial) hK hP hD hS hA rfl (by decide) rfl (by decide) (by decide) rfl rfl rfl rfl hl.1 rfl (Nat.le_of_ble_eq_true rfl) dX0_raiseFrom_75 ⟨by dsimp only [pq_R]; omega, by dsimp only [pq_R]; omega⟩ (fun v w1 H locs hq hP hD hS hz => ?_)
        obtain ⟨rfl, rfl⟩ := hq
        obtain ⟨B_6, hB_6⟩ : ∃ zz, zz = bTell B_5 e := ⟨_, rfl⟩
        rw [← hB_6] at hP hD
        have hP : va_P D vwCl [(h, .inr (0, [.ref a0, .ref a1, .ref a2, .ref a3, .ref a4, .ref a5, .int B_6.2.2.2.2.1, .int B_6.2.2.2.2.2.1, .int B_6.2.2.2.2.2.2])), (a0, .inl (cI, 128, .inl fi)), (a1, .inl (cI, 128, .inl la)), (a2, .inl (cI, 128, .inl B_6.1)), (a3, .inl (cI, 128, .inl B_6.2.1)), (a4, .inl (cI, 128, .inl B_6.2.2.1)), (a5, .inl (cI, 128, .inl B_6.2.2.2.1))] H := hP
        have hD : va_D A [(h, .inr (0, [.ref a0, .ref a1, .ref a2, .ref a3, .ref a4, .ref a5, .int B_6.2.2.2.2.1, .int B_6.2.2.2.2.2.1, .int B_6.2.2.2.2.2.2])), (a0, .inl (cI, 128, .inl fi)), (a1, .inl (cI, 128, .inl la)), (a2, .inl (cI, 128, .inl B_6.1)), (a3, .inl (cI, 128, .inl B_6.2.1)), (a4, .inl (cI, 128, .inl B_6.2.2.1)), (a5, .inl (cI, 128, .inl B_6.2.2.2.1))] := hD
        refine W.eq (g2 := F0 m 78 ls []) rfl ?_
        exact pq_vret hQ hx hb hr hlocks hK hS hP hD dX0_raiseFrom_78 (by omega) (by omega) (⟨rfl, by subst hB_6; subst hB_5; subst hB_3; subst hB_1; rw [bRaiseFrom, if_pos b_2, bKid, if_pos q_4] <;> rfl⟩)
      · refine lv_iload_n hx hb dX0_raiseFrom_32 rfl (lv_at hl 2 rfl) ?_
        refine lv_aload_n hx hb dX0_raiseFrom_33 rfl (lv_at hl 0 rfl) ?_
        refine va_get (D := D) (ci := 0) (v := .ref a1) (C := RX0) (T := TX0) (N := 9) hx hb hts hin_X0 hown hK hP 0 rfl rfl 1 (by decide) hf_PressedPlains_Book_15 (fun _ h9 => h9) rfl dX0_raiseFrom_34 ?_
        refine lv_iconst (v := 2) hx hb dX0_raiseFrom_37 (by decide) ?_
        refine lv_iload_n hx hb dX0_raiseFrom_38 rfl (lv_at hl 1 rfl) ?_
        refine lv_imul hx hb dX0_raiseFrom_39 ?_
        refine pq_top (nI (2 * e)) (pk_mul 2 _) ?_
        refine pq_iald hx hb hK hP 2 0 rfl rfl (2 * e) (by omega) (by decide) dX0_raiseFrom_40 ?_
        refine lv_icmp_gt (tgt := 48) hx hb dX0_raiseFrom_41 (by decide) (fun _ => ?_) (fun c9 => absurd (i_lt q_4) c9)
        refine lv_iconst (v := 0) hx hb dX0_raiseFrom_48 (by decide) ?_
        refine lv_istore (lv' := [(4, .int 0), (0, .ref h), (1, .int (nI e)), (2, .int x), (3, .int v0)]) hx hb dX0_raiseFrom_49 hl (by decide) rfl (fun ls hl => ?_)
        refine lv_aload_n hx hb dX0_raiseFrom_51 rfl (lv_at hl 1 rfl) ?_
        refine lv_iload hx hb dX0_raiseFrom_52 (lv_at hl 0 rfl) ?_
        refine lv_if_eq (tgt := 63) hx hb dX0_raiseFrom_54 (by decide) (fun _ => ?_) (fun c9 => absurd c9 (by decide))
        refine lv_iconst (v := 2) hx hb dX0_raiseFrom_63 (by decide) ?_
        refine lv_iload_n hx hb dX0_raiseFrom_64 rfl (lv_at hl 2 rfl) ?_
        refine lv_imul hx hb dX0_raiseFrom_65 ?_
        refine pq_top (nI (2 * e)) (pk_mul 2 _) ?_
        refine lv_iconst (v := 1) hx hb dX0_raiseFrom_66 (by decide) ?_
        refine lv_iadd hx hb dX0_raiseFrom_67 ?_
        refine pq_top (nI ((2 * e) + 1)) (nI_1 _) ?_
        refine lv_iload_n hx hb dX0_raiseFrom_68 rfl (lv_at hl 3 rfl) ?_
        refine lv_iload_n hx hb dX0_raiseFrom_69 rfl (lv_at hl 4 rfl) ?_
        refine pq_callV (wr := []) (own := RX0) (nL := 5) (q0 := 0) (ci := 0) [0, 1, 2, 3, 4, 5, 6] [] [.int (nI ((2 * e) + 1)), .int x, .int v0] (ih B_3 ((2 * e) + 1) (by omega) (pw_2 hd)) ⟨hx, hb, hml, hown, hts⟩ (cwV 3 hts gX0_raiseFrom_X0_raiseFrom rfl rfl rfl (by decide +kernel) ⟨by dsimp only [pq_R]; omega, by dsimp only [pq_R]; omega⟩) pq_bl0 (fun _ _ _ => trivial) hK hP hD hS hA rfl (by decide) rfl (by decide) (by decide) rfl rfl rfl rfl hl.1 rfl (Nat.le_of_ble_eq_true rfl) dX0_raiseFrom_70 ⟨by dsimp only [pq_R]; omega, by dsimp only [pq_R]; omega⟩ (fun v w1 H locs hq hP hD hS hz => ?_)
        obtain ⟨rfl, rfl⟩ := hq
        obtain ⟨B_7, hB_7⟩ : ∃ zz, zz = bRaiseFrom fi la x v0 d B_3 ((2 * e) + 1) := ⟨_, rfl⟩
        rw [← hB_7] at hP hD
        have hP : va_P D vwCl [(h, .inr (0, [.ref a0, .ref a1, .ref a2, .ref a3, .ref a4, .ref a5, .int B_7.2.2.2.2.1, .int B_7.2.2.2.2.2.1, .int B_7.2.2.2.2.2.2])), (a0, .inl (cI, 128, .inl fi)), (a1, .inl (cI, 128, .inl la)), (a2, .inl (cI, 128, .inl B_7.1)), (a3, .inl (cI, 128, .inl B_7.2.1)), (a4, .inl (cI, 128, .inl B_7.2.2.1)), (a5, .inl (cI, 128, .inl B_7.2.2.2.1))] H := hP
        have hD : va_D A [(h, .inr (0, [.ref a0, .ref a1, .ref a2, .ref a3, .ref a4, .ref a5, .int B_7.2.2.2.2.1, .int B_7.2.2.2.2.2.1, .int B_7.2.2.2.2.2.2])), (a0, .inl (cI, 128, .inl fi)), (a1, .inl (cI, 128, .inl la)), (a2, .inl (cI, 128, .inl B_7.1)), (a3, .inl (cI, 128, .inl B_7.2.1)), (a4, .inl (cI, 128, .inl B_7.2.2.1)), (a5, .inl (cI, 128, .inl B_7.2.2.2.1))] := hD
        refine W.eq (g2 := F0 m 73 ls []) rfl ?_
        refine lv_aload_n hx hb dX0_raiseFrom_73 rfl (lv_at hl 1 rfl) ?_
        refine lv_iload_n hx hb dX0_raiseFrom_74 rfl (lv_at hl 2 rfl) ?_
        refine pq_callV (wr := []) (own := RX0) (nL := 5) (q0 := 0) (ci := 0) [0, 1, 2, 3, 4, 5, 6] [] [.int (nI e)] (mX0_tellAnew l D cI h a0 a1 a2 a3 a4 a5 fi la B_7 e (by omega)) ⟨hx, hb, hml, hown, hts⟩ (cwV 1 hts gX0_raiseFrom_X0_tellAnew rfl rfl rfl (by decide +kernel) ⟨by dsimp only [pq_R]; omega, by dsimp only [pq_R]; omega⟩) pq_bl0 (fun _ _ _ => trivial) hK hP hD hS hA rfl (by decide) rfl (by decide) (by decide) rfl rfl rfl rfl hl.1 rfl (Nat.le_of_ble_eq_true rfl) dX0_raiseFrom_75 ⟨by dsimp only [pq_R]; omega, by dsimp only [pq_R]; omega⟩ (fun v w1 H locs hq hP hD hS hz => ?_)
        obtain ⟨rfl, rfl⟩ := hq
        obtain ⟨B_8, hB_8⟩ : ∃ zz, zz = bTell B_7 e := ⟨_, rfl⟩
        rw [← hB_8] at hP hD
        have hP : va_P D vwCl [(h, .inr (0, [.ref a0, .ref a1, .ref a2, .ref a3, .ref a4, .ref a5, .int B_8.2.2.2.2.1, .int B_8.2.2.2.2.2.1, .int B_8.2.2.2.2.2.2])), (a0, .inl (cI, 128, .inl fi)), (a1, .inl (cI, 128, .inl la)), (a2, .inl (cI, 128, .inl B_8.1)), (a3, .inl (cI, 128, .inl B_8.2.1)), (a4, .inl (cI, 128, .inl B_8.2.2.1)), (a5, .inl (cI, 128, .inl B_8.2.2.2.1))] H := hP
        have hD : va_D A [(h, .inr (0, [.ref a0, .ref a1, .ref a2, .ref a3, .ref a4, .ref a5, .int B_8.2.2.2.2.1, .int B_8.2.2.2.2.2.1, .int B_8.2.2.2.2.2.2])), (a0, .inl (cI, 128, .inl fi)), (a1, .inl (cI, 128, .inl la)), (a2, .inl (cI, 128, .inl B_8.1)), (a3, .inl (cI, 128, .inl B_8.2.1)), (a4, .inl (cI, 128, .inl B_8.2.2.1)), (a5, .inl (cI, 128, .inl B_8.2.2.2.1))] := hD
        refine W.eq (g2 := F0 m 78 ls []) rfl ?_
        exact pq_vret hQ hx hb hr hlocks hK hS hP hD dX0_raiseFrom_78 (by omega) (by omega) (⟨rfl, by subst hB_8; subst hB_7; subst hB_3; subst hB_1; rw [bRaiseFrom, if_pos b_2, bKid, if_neg q_4] <;> rfl⟩)
    · rw [if_neg b_2]
      refine W.eq (g2 := F0 m 9 ls [.int 0]) rfl ?_
      refine lv_if_ne (tgt := 27) hx hb dX0_raiseFrom_9 (by decide) (fun c9 => absurd c9 (by decide)) (fun _ => ?_)
      refine lv_aload_n hx hb dX0_raiseFrom_12 rfl (lv_at hl 0 rfl) ?_
      refine va_get (D := D) (ci := 0) (v := .ref a2) (C := RX0) (T := TX0) (N := 9) hx hb hts hin_X0 hown hK hP 0 rfl rfl 2 (by decide) hf_PressedPlains_Book_18 (fun _ h9 => h9) rfl dX0_raiseFrom_13 ?_
      refine lv_iload_n hx hb dX0_raiseFrom_16 rfl (lv_at hl 1 rfl) ?_
      refine lv_iload_n hx hb dX0_raiseFrom_17 rfl (lv_at hl 3 rfl) ?_
      refine pq_iast hx hb hK hP hD hS 3 0 rfl rfl e (by omega) (by decide) dX0_raiseFrom_18 (fun H locs hP hD hS => ?_)
      have hP : va_P D vwCl [(h, .inr (0, [.ref a0, .ref a1, .ref a2, .ref a3, .ref a4, .ref a5, .int B_1.2.2.2.2.1, .int B_1.2.2.2.2.2.1, .int B_1.2.2.2.2.2.2])), (a0, .inl (cI, 128, .inl fi)), (a1, .inl (cI, 128, .inl la)), (a2, .inl (cI, 128, .inl (upd B_1.1 e v0))), (a3, .inl (cI, 128, .inl B_1.2.1)), (a4, .inl (cI, 128, .inl B_1.2.2.1)), (a5, .inl (cI, 128, .inl B_1.2.2.2.1))] H := hP
      have hD : va_D A [(h, .inr (0, [.ref a0, .ref a1, .ref a2, .ref a3, .ref a4, .ref a5, .int B_1.2.2.2.2.1, .int B_1.2.2.2.2.2.1, .int B_1.2.2.2.2.2.2])), (a0, .inl (cI, 128, .inl fi)), (a1, .inl (cI, 128, .inl la)), (a2, .inl (cI, 128, .inl (upd B_1.1 e v0))), (a3, .inl (cI, 128, .inl B_1.2.1)), (a4, .inl (cI, 128, .inl B_1.2.2.1)), (a5, .inl (cI, 128, .inl B_1.2.2.2.1))] := hD
      refine lv_aload_n hx hb dX0_raiseFrom_19 rfl (lv_at hl 0 rfl) ?_
      refine va_get (D := D) (ci := 0) (v := .ref a5) (C := RX0) (T := TX0) (N := 9) hx hb hts hin_X0 hown hK hP 0 rfl rfl 5 (by decide) hf_PressedPlains_Book_27 (fun _ h9 => h9) rfl dX0_raiseFrom_20 ?_
      refine lv_iload_n hx hb dX0_raiseFrom_23 rfl (lv_at hl 1 rfl) ?_
      refine lv_iload_n hx hb dX0_raiseFrom_24 rfl (lv_at hl 3 rfl) ?_
      refine pq_iast hx hb hK hP hD hS 6 0 rfl rfl e (by omega) (by decide) dX0_raiseFrom_25 (fun H locs hP hD hS => ?_)
      have hP : va_P D vwCl [(h, .inr (0, [.ref a0, .ref a1, .ref a2, .ref a3, .ref a4, .ref a5, .int B_1.2.2.2.2.1, .int B_1.2.2.2.2.2.1, .int B_1.2.2.2.2.2.2])), (a0, .inl (cI, 128, .inl fi)), (a1, .inl (cI, 128, .inl la)), (a2, .inl (cI, 128, .inl (upd B_1.1 e v0))), (a3, .inl (cI, 128, .inl B_1.2.1)), (a4, .inl (cI, 128, .inl B_1.2.2.1)), (a5, .inl (cI, 128, .inl (upd B_1.2.2.2.1 e v0)))] H := hP
      have hD : va_D A [(h, .inr (0, [.ref a0, .ref a1, .ref a2, .ref a3, .ref a4, .ref a5, .int B_1.2.2.2.2.1, .int B_1.2.2.2.2.2.1, .int B_1.2.2.2.2.2.2])), (a0, .inl (cI, 128, .inl fi)), (a1, .inl (cI, 128, .inl la)), (a2, .inl (cI, 128, .inl (upd B_1.1 e v0))), (a3, .inl (cI, 128, .inl B_1.2.1)), (a4, .inl (cI, 128, .inl B_1.2.2.1)), (a5, .inl (cI, 128, .inl (upd B_1.2.2.2.1 e v0)))] := hD
      exact pq_vret hQ hx hb hr hlocks hK hS hP hD dX0_raiseFrom_26 (by omega) (by omega) (⟨rfl, by subst hB_1; rw [bRaiseFrom, if_neg b_2] <;> rfl⟩)

set_option maxHeartbeats 4000000 in
set_option maxRecDepth 100000 in
theorem mX0_sumFrom (l : Launch) (D : va_G) (cI : ClassId) (h a0 a1 a2 a3 a4 a5 : Nat) (fi la : Nat → Int32) (a b : Int32) : ∀ (d : Nat) (B : BK) (e : Nat), e < 128 → 128 ≤ e * 2 ^ d → pq_M l yX0_sumFrom wsX0_sumFrom (d + 3) (64 + d * 23) 0 0 D [(cI, .int)] pq_0 (bkW h a0 a1 a2 a3 a4 a5 cI fi la B) [.ref h, .int (nI e), .int a, .int b] (fun v w1 => v = some (.int (bSumFrom fi la a b d B e).1) ∧ w1 = bkW h a0 a1 a2 a3 a4 a5 cI fi la (bSumFrom fi la a b d B e).2) := by
  intro d
  induction d with
  | zero =>
    intro B e he hd
    simp only [Nat.pow_zero, Nat.mul_one] at hd
    omega
  | succ d ih =>
    intro B e he hd
    refine pq_enter (cc := cX0_sumFrom) (maxL := 4) (ret := (some .int)) (by decide) rfl (Nat.le_of_ble_eq_true rfl) ?_
    intro p ev s m args below meth cd A ls Q H locs hx hb hr hml hts hown hlocks hnm hK hP hD hS hA hE hl hQ
    have hl : lv_has ls 4 [(0, .ref h), (1, .int (nI e)), (2, .int a), (3, .int b)] := hl
    have hP : va_P D vwCl [(h, .inr (0, [.ref a0, .ref a1, .ref a2, .ref a3, .ref a4, .ref a5, .int B.2.2.2.2.1, .int B.2.2.2.2.2.1, .int B.2.2.2.2.2.2])), (a0, .inl (cI, 128, .inl fi)), (a1, .inl (cI, 128, .inl la)), (a2, .inl (cI, 128, .inl B.1)), (a3, .inl (cI, 128, .inl B.2.1)), (a4, .inl (cI, 128, .inl B.2.2.1)), (a5, .inl (cI, 128, .inl B.2.2.2.1))] H := hP
    have hD : va_D A [(h, .inr (0, [.ref a0, .ref a1, .ref a2, .ref a3, .ref a4, .ref a5, .int B.2.2.2.2.1, .int B.2.2.2.2.2.1, .int B.2.2.2.2.2.2])), (a0, .inl (cI, 128, .inl fi)), (a1, .inl (cI, 128, .inl la)), (a2, .inl (cI, 128, .inl B.1)), (a3, .inl (cI, 128, .inl B.2.1)), (a4, .inl (cI, 128, .inl B.2.2.1)), (a5, .inl (cI, 128, .inl B.2.2.2.1))] := hD
    have hin_X0 : ∀ w ∈ wsX00, w ∈ wsX0_sumFrom := by decide +kernel
    have hf_PressedPlains_Book_27 := hts (.fieldLink RX0 27 "PressedPlains$Book" "sum" "[I") (by decide +kernel)
    refine lv_aload_n hx hb dX0_sumFrom_0 rfl (lv_at hl 0 rfl) ?_
    refine pq_callV (wr := []) (own := RX0) (nL := 4) (q0 := 0) (ci := 0) [0, 1, 2, 3, 4, 5, 6] [] [] (mX0_countVisit l D cI h a0 a1 a2 a3 a4 a5 fi la B ) ⟨hx, hb, hml, hown, hts⟩ (cwV 0 hts gX0_sumFrom_X0_countVisit rfl rfl rfl (by decide +kernel) ⟨by dsimp only [pq_R]; omega, by dsimp only [pq_R]; omega⟩) pq_bl0 (fun _ _ _ => trivial) hK hP hD hS hA rfl (by decide) rfl (by decide) (by decide) rfl rfl rfl rfl hl.1 rfl (Nat.le_of_ble_eq_true rfl) dX0_sumFrom_1 ⟨by dsimp only [pq_R]; omega, by dsimp only [pq_R]; omega⟩ (fun v w1 H locs hq hP hD hS hz => ?_)
    obtain ⟨rfl, rfl⟩ := hq
    obtain ⟨B_1, hB_1⟩ : ∃ zz, zz = bVisit B := ⟨_, rfl⟩
    rw [← hB_1] at hP hD
    have hP : va_P D vwCl [(h, .inr (0, [.ref a0, .ref a1, .ref a2, .ref a3, .ref a4, .ref a5, .int B_1.2.2.2.2.1, .int B_1.2.2.2.2.2.1, .int B_1.2.2.2.2.2.2])), (a0, .inl (cI, 128, .inl fi)), (a1, .inl (cI, 128, .inl la)), (a2, .inl (cI, 128, .inl B_1.1)), (a3, .inl (cI, 128, .inl B_1.2.1)), (a4, .inl (cI, 128, .inl B_1.2.2.1)), (a5, .inl (cI, 128, .inl B_1.2.2.2.1))] H := hP
    have hD : va_D A [(h, .inr (0, [.ref a0, .ref a1, .ref a2, .ref a3, .ref a4, .ref a5, .int B_1.2.2.2.2.1, .int B_1.2.2.2.2.2.1, .int B_1.2.2.2.2.2.2])), (a0, .inl (cI, 128, .inl fi)), (a1, .inl (cI, 128, .inl la)), (a2, .inl (cI, 128, .inl B_1.1)), (a3, .inl (cI, 128, .inl B_1.2.1)), (a4, .inl (cI, 128, .inl B_1.2.2.1)), (a5, .inl (cI, 128, .inl B_1.2.2.2.1))] := hD
    refine W.eq (g2 := F0 m 4 ls []) rfl ?_
    refine lv_aload_n hx hb dX0_sumFrom_4 rfl (lv_at hl 0 rfl) ?_
    refine lv_iload_n hx hb dX0_sumFrom_5 rfl (lv_at hl 1 rfl) ?_
    refine lv_iload_n hx hb dX0_sumFrom_6 rfl (lv_at hl 2 rfl) ?_
    refine lv_iload_n hx hb dX0_sumFrom_7 rfl (lv_at hl 3 rfl) ?_
    refine pq_callV (wr := []) (own := RX0) (nL := 4) (q0 := 0) (ci := 0) [0, 1, 2, 3, 4, 5, 6] [] [.int (nI e), .int a, .int b] (mX0_isApart l D cI h a0 a1 a2 a3 a4 a5 fi la B_1 e a b (by omega)) ⟨hx, hb, hml, hown, hts⟩ (cwV 3 hts gX0_sumFrom_X0_isApart rfl rfl rfl (by decide +kernel) ⟨by dsimp only [pq_R]; omega, by dsimp only [pq_R]; omega⟩) pq_bl0 (fun _ _ _ => trivial) hK hP hD hS hA rfl (by decide) rfl (by decide) (by decide) rfl rfl rfl rfl hl.1 rfl (Nat.le_of_ble_eq_true rfl) dX0_sumFrom_8 ⟨by dsimp only [pq_R]; omega, by dsimp only [pq_R]; omega⟩ (fun v w1 H locs hq hP hD hS hz => ?_)
    obtain ⟨rfl, rfl⟩ := hq
    have hP : va_P D vwCl [(h, .inr (0, [.ref a0, .ref a1, .ref a2, .ref a3, .ref a4, .ref a5, .int B_1.2.2.2.2.1, .int B_1.2.2.2.2.2.1, .int B_1.2.2.2.2.2.2])), (a0, .inl (cI, 128, .inl fi)), (a1, .inl (cI, 128, .inl la)), (a2, .inl (cI, 128, .inl B_1.1)), (a3, .inl (cI, 128, .inl B_1.2.1)), (a4, .inl (cI, 128, .inl B_1.2.2.1)), (a5, .inl (cI, 128, .inl B_1.2.2.2.1))] H := hP
    have hD : va_D A [(h, .inr (0, [.ref a0, .ref a1, .ref a2, .ref a3, .ref a4, .ref a5, .int B_1.2.2.2.2.1, .int B_1.2.2.2.2.2.1, .int B_1.2.2.2.2.2.2])), (a0, .inl (cI, 128, .inl fi)), (a1, .inl (cI, 128, .inl la)), (a2, .inl (cI, 128, .inl B_1.1)), (a3, .inl (cI, 128, .inl B_1.2.1)), (a4, .inl (cI, 128, .inl B_1.2.2.1)), (a5, .inl (cI, 128, .inl B_1.2.2.2.1))] := hD
    by_cases b_2 : bAp fi la e a b
    · rw [if_pos b_2]
      refine W.eq (g2 := F0 m 11 ls [.int 1]) rfl ?_
      refine lv_if_eq (tgt := 16) hx hb dX0_sumFrom_11 (by decide) (fun c9 => absurd c9 (by decide)) (fun _ => ?_)
      refine lv_iconst (v := 0) hx hb dX0_sumFrom_14 (by decide) ?_
      exact pq_iret hQ hx hb hr hlocks hK hS hP hD dX0_sumFrom_15 (by omega) (by omega) (⟨by subst hB_1; rw [bSumFrom, if_pos b_2] <;> rfl, by subst hB_1; rw [bSumFrom, if_pos b_2] <;> rfl⟩)
    · rw [if_neg b_2]
      refine W.eq (g2 := F0 m 11 ls [.int 0]) rfl ?_
      refine lv_if_eq (tgt := 16) hx hb dX0_sumFrom_11 (by decide) (fun _ => ?_) (fun c9 => absurd c9 (by decide))
      refine lv_aload_n hx hb dX0_sumFrom_16 rfl (lv_at hl 0 rfl) ?_
      refine lv_iload_n hx hb dX0_sumFrom_17 rfl (lv_at hl 1 rfl) ?_
      refine lv_iload_n hx hb dX0_sumFrom_18 rfl (lv_at hl 2 rfl) ?_
      refine lv_iload_n hx hb dX0_sumFrom_19 rfl (lv_at hl 3 rfl) ?_
      refine pq_callV (wr := []) (own := RX0) (nL := 4) (q0 := 0) (ci := 0) [0, 1, 2, 3, 4, 5, 6] [] [.int (nI e), .int a, .int b] (mX0_isWithin l D cI h a0 a1 a2 a3 a4 a5 fi la B_1 e a b (by omega)) ⟨hx, hb, hml, hown, hts⟩ (cwV 3 hts gX0_sumFrom_X0_isWithin rfl rfl rfl (by decide +kernel) ⟨by dsimp only [pq_R]; omega, by dsimp only [pq_R]; omega⟩) pq_bl0 (fun _ _ _ => trivial) hK hP hD hS hA rfl (by decide) rfl (by decide) (by decide) rfl rfl rfl rfl hl.1 rfl (Nat.le_of_ble_eq_true rfl) dX0_sumFrom_20 ⟨by dsimp only [pq_R]; omega, by dsimp only [pq_R]; omega⟩ (fun v w1 H locs hq hP hD hS hz => ?_)
      obtain ⟨rfl, rfl⟩ := hq
      have hP : va_P D vwCl [(h, .inr (0, [.ref a0, .ref a1, .ref a2, .ref a3, .ref a4, .ref a5, .int B_1.2.2.2.2.1, .int B_1.2.2.2.2.2.1, .int B_1.2.2.2.2.2.2])), (a0, .inl (cI, 128, .inl fi)), (a1, .inl (cI, 128, .inl la)), (a2, .inl (cI, 128, .inl B_1.1)), (a3, .inl (cI, 128, .inl B_1.2.1)), (a4, .inl (cI, 128, .inl B_1.2.2.1)), (a5, .inl (cI, 128, .inl B_1.2.2.2.1))] H := hP
      have hD : va_D A [(h, .inr (0, [.ref a0, .ref a1, .ref a2, .ref a3, .ref a4, .ref a5, .int B_1.2.2.2.2.1, .int B_1.2.2.2.2.2.1, .int B_1.2.2.2.2.2.2])), (a0, .inl (cI, 128, .inl fi)), (a1, .inl (cI, 128, .inl la)), (a2, .inl (cI, 128, .inl B_1.1)), (a3, .inl (cI, 128, .inl B_1.2.1)), (a4, .inl (cI, 128, .inl B_1.2.2.1)), (a5, .inl (cI, 128, .inl B_1.2.2.2.1))] := hD
      by_cases b_3 : bWi fi la e a b
      · rw [if_pos b_3]
        refine W.eq (g2 := F0 m 23 ls [.int 1]) rfl ?_
        refine lv_if_ne (tgt := 34) hx hb dX0_sumFrom_23 (by decide) (fun _ => ?_) (fun c9 => absurd c9 (by decide))
        refine lv_aload_n hx hb dX0_sumFrom_34 rfl (lv_at hl 0 rfl) ?_
        refine va_get (D := D) (ci := 0) (v := .ref a5) (C := RX0) (T := TX0) (N := 9) hx hb hts hin_X0 hown hK hP 0 rfl rfl 5 (by decide) hf_PressedPlains_Book_27 (fun _ h9 => h9) rfl dX0_sumFrom_35 ?_
        refine lv_iload_n hx hb dX0_sumFrom_38 rfl (lv_at hl 1 rfl) ?_
        refine pq_iald hx hb hK hP 6 0 rfl rfl e (by omega) (by decide) dX0_sumFrom_39 ?_
        exact pq_iret hQ hx hb hr hlocks hK hS hP hD dX0_sumFrom_40 (by omega) (by omega) (⟨by subst hB_1; rw [bSumFrom, if_neg b_2, if_pos (Or.inl b_3)] <;> rfl, by subst hB_1; rw [bSumFrom, if_neg b_2, if_pos (Or.inl b_3)] <;> rfl⟩)
      · rw [if_neg b_3]
        refine W.eq (g2 := F0 m 23 ls [.int 0]) rfl ?_
        refine lv_if_ne (tgt := 34) hx hb dX0_sumFrom_23 (by decide) (fun c9 => absurd c9 (by decide)) (fun _ => ?_)
        refine lv_aload_n hx hb dX0_sumFrom_26 rfl (lv_at hl 0 rfl) ?_
        refine lv_iload_n hx hb dX0_sumFrom_27 rfl (lv_at hl 1 rfl) ?_
        refine pq_callV (wr := []) (own := RX0) (nL := 4) (q0 := 0) (ci := 0) [0, 1, 2, 3, 4, 5, 6] [] [.int (nI e)] (mX0_hasParts l D cI h a0 a1 a2 a3 a4 a5 fi la B_1 e (by omega)) ⟨hx, hb, hml, hown, hts⟩ (cwV 1 hts gX0_sumFrom_X0_hasParts rfl rfl rfl (by decide +kernel) ⟨by dsimp only [pq_R]; omega, by dsimp only [pq_R]; omega⟩) pq_bl0 (fun _ _ _ => trivial) hK hP hD hS hA rfl (by decide) rfl (by decide) (by decide) rfl rfl rfl rfl hl.1 rfl (Nat.le_of_ble_eq_true rfl) dX0_sumFrom_28 ⟨by dsimp only [pq_R]; omega, by dsimp only [pq_R]; omega⟩ (fun v w1 H locs hq hP hD hS hz => ?_)
        obtain ⟨rfl, rfl⟩ := hq
        have hP : va_P D vwCl [(h, .inr (0, [.ref a0, .ref a1, .ref a2, .ref a3, .ref a4, .ref a5, .int B_1.2.2.2.2.1, .int B_1.2.2.2.2.2.1, .int B_1.2.2.2.2.2.2])), (a0, .inl (cI, 128, .inl fi)), (a1, .inl (cI, 128, .inl la)), (a2, .inl (cI, 128, .inl B_1.1)), (a3, .inl (cI, 128, .inl B_1.2.1)), (a4, .inl (cI, 128, .inl B_1.2.2.1)), (a5, .inl (cI, 128, .inl B_1.2.2.2.1))] H := hP
        have hD : va_D A [(h, .inr (0, [.ref a0, .ref a1, .ref a2, .ref a3, .ref a4, .ref a5, .int B_1.2.2.2.2.1, .int B_1.2.2.2.2.2.1, .int B_1.2.2.2.2.2.2])), (a0, .inl (cI, 128, .inl fi)), (a1, .inl (cI, 128, .inl la)), (a2, .inl (cI, 128, .inl B_1.1)), (a3, .inl (cI, 128, .inl B_1.2.1)), (a4, .inl (cI, 128, .inl B_1.2.2.1)), (a5, .inl (cI, 128, .inl B_1.2.2.2.1))] := hD
        by_cases b_4 : bHp fi la e
        · have he64 : e < 64 := bHp_lt (by omega) b_4
          rw [if_pos b_4]
          refine W.eq (g2 := F0 m 31 ls [.int 1]) rfl ?_
          refine lv_if_ne (tgt := 41) hx hb dX0_sumFrom_31 (by decide) (fun _ => ?_) (fun c9 => absurd c9 (by decide))
          refine lv_aload_n hx hb dX0_sumFrom_41 rfl (lv_at hl 0 rfl) ?_
          refine lv_iload_n hx hb dX0_sumFrom_42 rfl (lv_at hl 1 rfl) ?_
          refine pq_callV (wr := []) (own := RX0) (nL := 4) (q0 := 0) (ci := 0) [0, 1, 2, 3, 4, 5, 6] [] [.int (nI e)] (mX0_catchUpBelow l D cI h a0 a1 a2 a3 a4 a5 fi la B_1 e (by omega)) ⟨hx, hb, hml, hown, hts⟩ (cwV 1 hts gX0_sumFrom_X0_catchUpBelow rfl rfl rfl (by decide +kernel) ⟨by dsimp only [pq_R]; omega, by dsimp only [pq_R]; omega⟩) pq_bl0 (fun _ _ _ => trivial) hK hP hD hS hA rfl (by decide) rfl (by decide) (by decide) rfl rfl rfl rfl hl.1 rfl (Nat.le_of_ble_eq_true rfl) dX0_sumFrom_43 ⟨by dsimp only [pq_R]; omega, by dsimp only [pq_R]; omega⟩ (fun v w1 H locs hq hP hD hS hz => ?_)
          obtain ⟨rfl, rfl⟩ := hq
          obtain ⟨B_5, hB_5⟩ : ∃ zz, zz = bCatch2 B_1 e := ⟨_, rfl⟩
          rw [← hB_5] at hP hD
          have hP : va_P D vwCl [(h, .inr (0, [.ref a0, .ref a1, .ref a2, .ref a3, .ref a4, .ref a5, .int B_5.2.2.2.2.1, .int B_5.2.2.2.2.2.1, .int B_5.2.2.2.2.2.2])), (a0, .inl (cI, 128, .inl fi)), (a1, .inl (cI, 128, .inl la)), (a2, .inl (cI, 128, .inl B_5.1)), (a3, .inl (cI, 128, .inl B_5.2.1)), (a4, .inl (cI, 128, .inl B_5.2.2.1)), (a5, .inl (cI, 128, .inl B_5.2.2.2.1))] H := hP
          have hD : va_D A [(h, .inr (0, [.ref a0, .ref a1, .ref a2, .ref a3, .ref a4, .ref a5, .int B_5.2.2.2.2.1, .int B_5.2.2.2.2.2.1, .int B_5.2.2.2.2.2.2])), (a0, .inl (cI, 128, .inl fi)), (a1, .inl (cI, 128, .inl la)), (a2, .inl (cI, 128, .inl B_5.1)), (a3, .inl (cI, 128, .inl B_5.2.1)), (a4, .inl (cI, 128, .inl B_5.2.2.1)), (a5, .inl (cI, 128, .inl B_5.2.2.2.1))] := hD
          refine W.eq (g2 := F0 m 46 ls []) rfl ?_
          refine lv_aload_n hx hb dX0_sumFrom_46 rfl (lv_at hl 0 rfl) ?_
          refine lv_iconst (v := 2) hx hb dX0_sumFrom_47 (by decide) ?_
          refine lv_iload_n hx hb dX0_sumFrom_48 rfl (lv_at hl 1 rfl) ?_
          refine lv_imul hx hb dX0_sumFrom_49 ?_
          refine pq_top (nI (2 * e)) (pk_mul 2 _) ?_
          refine lv_iload_n hx hb dX0_sumFrom_50 rfl (lv_at hl 2 rfl) ?_
          refine lv_iload_n hx hb dX0_sumFrom_51 rfl (lv_at hl 3 rfl) ?_
          refine pq_callV (wr := []) (own := RX0) (nL := 4) (q0 := 0) (ci := 0) [0, 1, 2, 3, 4, 5, 6] [] [.int (nI (2 * e)), .int a, .int b] (ih B_5 (2 * e) (by omega) (pw_1 hd)) ⟨hx, hb, hml, hown, hts⟩ (cwV 3 hts gX0_sumFrom_X0_sumFrom rfl rfl rfl (by decide +kernel) ⟨by dsimp only [pq_R]; omega, by dsimp only [pq_R]; omega⟩) pq_bl0 (fun _ _ _ => trivial) hK hP hD hS hA rfl (by decide) rfl (by decide) (by decide) rfl rfl rfl rfl hl.1 rfl (Nat.le_of_ble_eq_true rfl) dX0_sumFrom_52 ⟨by dsimp only [pq_R]; omega, by dsimp only [pq_R]; omega⟩ (fun v w1 H locs hq hP hD hS hz => ?_)
          obtain ⟨rfl, rfl⟩ := hq
          obtain ⟨B_6, hB_6⟩ : ∃ zz, zz = (bSumFrom fi la a b d B_5 (2 * e)).2 := ⟨_, rfl⟩
          rw [← hB_6] at hP hD
          have hP : va_P D vwCl [(h, .inr (0, [.ref a0, .ref a1, .ref a2, .ref a3, .ref a4, .ref a5, .int B_6.2.2.2.2.1, .int B_6.2.2.2.2.2.1, .int B_6.2.2.2.2.2.2])), (a0, .inl (cI, 128, .inl fi)), (a1, .inl (cI, 128, .inl la)), (a2, .inl (cI, 128, .inl B_6.1)), (a3, .inl (cI, 128, .inl B_6.2.1)), (a4, .inl (cI, 128, .inl B_6.2.2.1)), (a5, .inl (cI, 128, .inl B_6.2.2.2.1))] H := hP
          have hD : va_D A [(h, .inr (0, [.ref a0, .ref a1, .ref a2, .ref a3, .ref a4, .ref a5, .int B_6.2.2.2.2.1, .int B_6.2.2.2.2.2.1, .int B_6.2.2.2.2.2.2])), (a0, .inl (cI, 128, .inl fi)), (a1, .inl (cI, 128, .inl la)), (a2, .inl (cI, 128, .inl B_6.1)), (a3, .inl (cI, 128, .inl B_6.2.1)), (a4, .inl (cI, 128, .inl B_6.2.2.1)), (a5, .inl (cI, 128, .inl B_6.2.2.2.1))] := hD
          refine W.eq (g2 := F0 m 55 ls [.int ((bSumFrom fi la a b d B_5 (2 * e)).1)]) rfl ?_
          refine lv_aload_n hx hb dX0_sumFrom_55 rfl (lv_at hl 0 rfl) ?_
          refine lv_iconst (v := 2) hx hb dX0_sumFrom_56 (by decide) ?_
          refine lv_iload_n hx hb dX0_sumFrom_57 rfl (lv_at hl 1 rfl) ?_
          refine lv_imul hx hb dX0_sumFrom_58 ?_
          refine pq_top (nI (2 * e)) (pk_mul 2 _) ?_
          refine lv_iconst (v := 1) hx hb dX0_sumFrom_59 (by decide) ?_
          refine lv_iadd hx hb dX0_sumFrom_60 ?_
          refine pq_top (nI ((2 * e) + 1)) (nI_1 _) ?_
          refine lv_iload_n hx hb dX0_sumFrom_61 rfl (lv_at hl 2 rfl) ?_
          refine lv_iload_n hx hb dX0_sumFrom_62 rfl (lv_at hl 3 rfl) ?_
          refine pq_callV (wr := []) (own := RX0) (nL := 4) (q0 := 0) (ci := 0) [0, 1, 2, 3, 4, 5, 6] [] [.int (nI ((2 * e) + 1)), .int a, .int b] (ih B_6 ((2 * e) + 1) (by omega) (pw_2 hd)) ⟨hx, hb, hml, hown, hts⟩ (cwV 3 hts gX0_sumFrom_X0_sumFrom rfl rfl rfl (by decide +kernel) ⟨by dsimp only [pq_R]; omega, by dsimp only [pq_R]; omega⟩) pq_bl0 (fun _ _ _ => trivial) hK hP hD hS hA rfl (by decide) rfl (by decide) (by decide) rfl rfl rfl rfl hl.1 rfl (Nat.le_of_ble_eq_true rfl) dX0_sumFrom_63 ⟨by dsimp only [pq_R]; omega, by dsimp only [pq_R]; omega⟩ (fun v w1 H locs hq hP hD hS hz => ?_)
          obtain ⟨rfl, rfl⟩ := hq
          obtain ⟨B_7, hB_7⟩ : ∃ zz, zz = (bSumFrom fi la a b d B_6 ((2 * e) + 1)).2 := ⟨_, rfl⟩
          rw [← hB_7] at hP hD
          have hP : va_P D vwCl [(h, .inr (0, [.ref a0, .ref a1, .ref a2, .ref a3, .ref a4, .ref a5, .int B_7.2.2.2.2.1, .int B_7.2.2.2.2.2.1, .int B_7.2.2.2.2.2.2])), (a0, .inl (cI, 128, .inl fi)), (a1, .inl (cI, 128, .inl la)), (a2, .inl (cI, 128, .inl B_7.1)), (a3, .inl (cI, 128, .inl B_7.2.1)), (a4, .inl (cI, 128, .inl B_7.2.2.1)), (a5, .inl (cI, 128, .inl B_7.2.2.2.1))] H := hP
          have hD : va_D A [(h, .inr (0, [.ref a0, .ref a1, .ref a2, .ref a3, .ref a4, .ref a5, .int B_7.2.2.2.2.1, .int B_7.2.2.2.2.2.1, .int B_7.2.2.2.2.2.2])), (a0, .inl (cI, 128, .inl fi)), (a1, .inl (cI, 128, .inl la)), (a2, .inl (cI, 128, .inl B_7.1)), (a3, .inl (cI, 128, .inl B_7.2.1)), (a4, .inl (cI, 128, .inl B_7.2.2.1)), (a5, .inl (cI, 128, .inl B_7.2.2.2.1))] := hD
          refine W.eq (g2 := F0 m 66 ls [.int ((bSumFrom fi la a b d B_6 ((2 * e) + 1)).1), .int ((bSumFrom fi la a b d B_5 (2 * e)).1)]) rfl ?_
          refine lv_iadd hx hb dX0_sumFrom_66 ?_
          exact pq_iret hQ hx hb hr hlocks hK hS hP hD dX0_sumFrom_67 (by omega) (by omega) (⟨by subst hB_7; subst hB_6; subst hB_5; subst hB_1; rw [bSumFrom, if_neg b_2, if_neg (fun h => h.elim b_3 (fun h => h b_4))] <;> rfl, by subst hB_7; subst hB_6; subst hB_5; subst hB_1; rw [bSumFrom, if_neg b_2, if_neg (fun h => h.elim b_3 (fun h => h b_4))] <;> rfl⟩)
        · rw [if_neg b_4]
          refine W.eq (g2 := F0 m 31 ls [.int 0]) rfl ?_
          refine lv_if_ne (tgt := 41) hx hb dX0_sumFrom_31 (by decide) (fun c9 => absurd c9 (by decide)) (fun _ => ?_)
          refine lv_aload_n hx hb dX0_sumFrom_34 rfl (lv_at hl 0 rfl) ?_
          refine va_get (D := D) (ci := 0) (v := .ref a5) (C := RX0) (T := TX0) (N := 9) hx hb hts hin_X0 hown hK hP 0 rfl rfl 5 (by decide) hf_PressedPlains_Book_27 (fun _ h9 => h9) rfl dX0_sumFrom_35 ?_
          refine lv_iload_n hx hb dX0_sumFrom_38 rfl (lv_at hl 1 rfl) ?_
          refine pq_iald hx hb hK hP 6 0 rfl rfl e (by omega) (by decide) dX0_sumFrom_39 ?_
          exact pq_iret hQ hx hb hr hlocks hK hS hP hD dX0_sumFrom_40 (by omega) (by omega) (⟨by subst hB_1; rw [bSumFrom, if_neg b_2, if_pos (Or.inr b_4)] <;> rfl, by subst hB_1; rw [bSumFrom, if_neg b_2, if_pos (Or.inr b_4)] <;> rfl⟩)

set_option maxHeartbeats 4000000 in
set_option maxRecDepth 100000 in
theorem mX0_greatestFrom (l : Launch) (D : va_G) (cI : ClassId) (h a0 a1 a2 a3 a4 a5 : Nat) (fi la : Nat → Int32) (a b : Int32) : ∀ (d : Nat) (B : BK) (e : Nat), e < 128 → 128 ≤ e * 2 ^ d → pq_M l yX0_greatestFrom wsX0_greatestFrom (d + 3) (64 + d * 23) 0 0 D [(cI, .int)] pq_0 (bkW h a0 a1 a2 a3 a4 a5 cI fi la B) [.ref h, .int (nI e), .int a, .int b] (fun v w1 => v = some (.int (bTopFrom fi la a b d B e).1) ∧ w1 = bkW h a0 a1 a2 a3 a4 a5 cI fi la (bTopFrom fi la a b d B e).2) := by
  intro d
  induction d with
  | zero =>
    intro B e he hd
    simp only [Nat.pow_zero, Nat.mul_one] at hd
    omega
  | succ d ih =>
    intro B e he hd
    refine pq_enter (cc := cX0_greatestFrom) (maxL := 4) (ret := (some .int)) (by decide) rfl (Nat.le_of_ble_eq_true rfl) ?_
    intro p ev s m args below meth cd A ls Q H locs hx hb hr hml hts hown hlocks hnm hK hP hD hS hA hE hl hQ
    have hl : lv_has ls 4 [(0, .ref h), (1, .int (nI e)), (2, .int a), (3, .int b)] := hl
    have hP : va_P D vwCl [(h, .inr (0, [.ref a0, .ref a1, .ref a2, .ref a3, .ref a4, .ref a5, .int B.2.2.2.2.1, .int B.2.2.2.2.2.1, .int B.2.2.2.2.2.2])), (a0, .inl (cI, 128, .inl fi)), (a1, .inl (cI, 128, .inl la)), (a2, .inl (cI, 128, .inl B.1)), (a3, .inl (cI, 128, .inl B.2.1)), (a4, .inl (cI, 128, .inl B.2.2.1)), (a5, .inl (cI, 128, .inl B.2.2.2.1))] H := hP
    have hD : va_D A [(h, .inr (0, [.ref a0, .ref a1, .ref a2, .ref a3, .ref a4, .ref a5, .int B.2.2.2.2.1, .int B.2.2.2.2.2.1, .int B.2.2.2.2.2.2])), (a0, .inl (cI, 128, .inl fi)), (a1, .inl (cI, 128, .inl la)), (a2, .inl (cI, 128, .inl B.1)), (a3, .inl (cI, 128, .inl B.2.1)), (a4, .inl (cI, 128, .inl B.2.2.1)), (a5, .inl (cI, 128, .inl B.2.2.2.1))] := hD
    have hin_X0 : ∀ w ∈ wsX00, w ∈ wsX0_greatestFrom := by decide +kernel
    have hf_PressedPlains_Book_18 := hts (.fieldLink RX0 18 "PressedPlains$Book" "greatest" "[I") (by decide +kernel)
    have hm1_max101 := hts (.methodLink RX0 101 Lib.Math.max.name) (by decide +kernel)
    have hm2_max := hts (.static Lib.Math.max.name) (by decide +kernel)
    have hm3 := hts (.initialized "java/lang/Math") (by decide +kernel)
    have hm4_max := hts (.code Lib.Math.max.name Lib.Math.max.code 2 (some .int)) (by decide +kernel)
    refine lv_aload_n hx hb dX0_greatestFrom_0 rfl (lv_at hl 0 rfl) ?_
    refine pq_callV (wr := []) (own := RX0) (nL := 4) (q0 := 0) (ci := 0) [0, 1, 2, 3, 4, 5, 6] [] [] (mX0_countVisit l D cI h a0 a1 a2 a3 a4 a5 fi la B ) ⟨hx, hb, hml, hown, hts⟩ (cwV 0 hts gX0_greatestFrom_X0_countVisit rfl rfl rfl (by decide +kernel) ⟨by dsimp only [pq_R]; omega, by dsimp only [pq_R]; omega⟩) pq_bl0 (fun _ _ _ => trivial) hK hP hD hS hA rfl (by decide) rfl (by decide) (by decide) rfl rfl rfl rfl hl.1 rfl (Nat.le_of_ble_eq_true rfl) dX0_greatestFrom_1 ⟨by dsimp only [pq_R]; omega, by dsimp only [pq_R]; omega⟩ (fun v w1 H locs hq hP hD hS hz => ?_)
    obtain ⟨rfl, rfl⟩ := hq
    obtain ⟨B_1, hB_1⟩ : ∃ zz, zz = bVisit B := ⟨_, rfl⟩
    rw [← hB_1] at hP hD
    have hP : va_P D vwCl [(h, .inr (0, [.ref a0, .ref a1, .ref a2, .ref a3, .ref a4, .ref a5, .int B_1.2.2.2.2.1, .int B_1.2.2.2.2.2.1, .int B_1.2.2.2.2.2.2])), (a0, .inl (cI, 128, .inl fi)), (a1, .inl (cI, 128, .inl la)), (a2, .inl (cI, 128, .inl B_1.1)), (a3, .inl (cI, 128, .inl B_1.2.1)), (a4, .inl (cI, 128, .inl B_1.2.2.1)), (a5, .inl (cI, 128, .inl B_1.2.2.2.1))] H := hP
    have hD : va_D A [(h, .inr (0, [.ref a0, .ref a1, .ref a2, .ref a3, .ref a4, .ref a5, .int B_1.2.2.2.2.1, .int B_1.2.2.2.2.2.1, .int B_1.2.2.2.2.2.2])), (a0, .inl (cI, 128, .inl fi)), (a1, .inl (cI, 128, .inl la)), (a2, .inl (cI, 128, .inl B_1.1)), (a3, .inl (cI, 128, .inl B_1.2.1)), (a4, .inl (cI, 128, .inl B_1.2.2.1)), (a5, .inl (cI, 128, .inl B_1.2.2.2.1))] := hD
    refine W.eq (g2 := F0 m 4 ls []) rfl ?_
    refine lv_aload_n hx hb dX0_greatestFrom_4 rfl (lv_at hl 0 rfl) ?_
    refine lv_iload_n hx hb dX0_greatestFrom_5 rfl (lv_at hl 1 rfl) ?_
    refine lv_iload_n hx hb dX0_greatestFrom_6 rfl (lv_at hl 2 rfl) ?_
    refine lv_iload_n hx hb dX0_greatestFrom_7 rfl (lv_at hl 3 rfl) ?_
    refine pq_callV (wr := []) (own := RX0) (nL := 4) (q0 := 0) (ci := 0) [0, 1, 2, 3, 4, 5, 6] [] [.int (nI e), .int a, .int b] (mX0_isApart l D cI h a0 a1 a2 a3 a4 a5 fi la B_1 e a b (by omega)) ⟨hx, hb, hml, hown, hts⟩ (cwV 3 hts gX0_greatestFrom_X0_isApart rfl rfl rfl (by decide +kernel) ⟨by dsimp only [pq_R]; omega, by dsimp only [pq_R]; omega⟩) pq_bl0 (fun _ _ _ => trivial) hK hP hD hS hA rfl (by decide) rfl (by decide) (by decide) rfl rfl rfl rfl hl.1 rfl (Nat.le_of_ble_eq_true rfl) dX0_greatestFrom_8 ⟨by dsimp only [pq_R]; omega, by dsimp only [pq_R]; omega⟩ (fun v w1 H locs hq hP hD hS hz => ?_)
    obtain ⟨rfl, rfl⟩ := hq
    have hP : va_P D vwCl [(h, .inr (0, [.ref a0, .ref a1, .ref a2, .ref a3, .ref a4, .ref a5, .int B_1.2.2.2.2.1, .int B_1.2.2.2.2.2.1, .int B_1.2.2.2.2.2.2])), (a0, .inl (cI, 128, .inl fi)), (a1, .inl (cI, 128, .inl la)), (a2, .inl (cI, 128, .inl B_1.1)), (a3, .inl (cI, 128, .inl B_1.2.1)), (a4, .inl (cI, 128, .inl B_1.2.2.1)), (a5, .inl (cI, 128, .inl B_1.2.2.2.1))] H := hP
    have hD : va_D A [(h, .inr (0, [.ref a0, .ref a1, .ref a2, .ref a3, .ref a4, .ref a5, .int B_1.2.2.2.2.1, .int B_1.2.2.2.2.2.1, .int B_1.2.2.2.2.2.2])), (a0, .inl (cI, 128, .inl fi)), (a1, .inl (cI, 128, .inl la)), (a2, .inl (cI, 128, .inl B_1.1)), (a3, .inl (cI, 128, .inl B_1.2.1)), (a4, .inl (cI, 128, .inl B_1.2.2.1)), (a5, .inl (cI, 128, .inl B_1.2.2.2.1))] := hD
    by_cases b_2 : bAp fi la e a b
    · rw [if_pos b_2]
      refine W.eq (g2 := F0 m 11 ls [.int 1]) rfl ?_
      refine lv_if_eq (tgt := 16) hx hb dX0_greatestFrom_11 (by decide) (fun c9 => absurd c9 (by decide)) (fun _ => ?_)
      refine lv_iconst (v := (-1)) hx hb dX0_greatestFrom_14 (by decide) ?_
      exact pq_iret hQ hx hb hr hlocks hK hS hP hD dX0_greatestFrom_15 (by omega) (by omega) (⟨by subst hB_1; rw [bTopFrom, if_pos b_2] <;> rfl, by subst hB_1; rw [bTopFrom, if_pos b_2] <;> rfl⟩)
    · rw [if_neg b_2]
      refine W.eq (g2 := F0 m 11 ls [.int 0]) rfl ?_
      refine lv_if_eq (tgt := 16) hx hb dX0_greatestFrom_11 (by decide) (fun _ => ?_) (fun c9 => absurd c9 (by decide))
      refine lv_aload_n hx hb dX0_greatestFrom_16 rfl (lv_at hl 0 rfl) ?_
      refine lv_iload_n hx hb dX0_greatestFrom_17 rfl (lv_at hl 1 rfl) ?_
      refine lv_iload_n hx hb dX0_greatestFrom_18 rfl (lv_at hl 2 rfl) ?_
      refine lv_iload_n hx hb dX0_greatestFrom_19 rfl (lv_at hl 3 rfl) ?_
      refine pq_callV (wr := []) (own := RX0) (nL := 4) (q0 := 0) (ci := 0) [0, 1, 2, 3, 4, 5, 6] [] [.int (nI e), .int a, .int b] (mX0_isWithin l D cI h a0 a1 a2 a3 a4 a5 fi la B_1 e a b (by omega)) ⟨hx, hb, hml, hown, hts⟩ (cwV 3 hts gX0_greatestFrom_X0_isWithin rfl rfl rfl (by decide +kernel) ⟨by dsimp only [pq_R]; omega, by dsimp only [pq_R]; omega⟩) pq_bl0 (fun _ _ _ => trivial) hK hP hD hS hA rfl (by decide) rfl (by decide) (by decide) rfl rfl rfl rfl hl.1 rfl (Nat.le_of_ble_eq_true rfl) dX0_greatestFrom_20 ⟨by dsimp only [pq_R]; omega, by dsimp only [pq_R]; omega⟩ (fun v w1 H locs hq hP hD hS hz => ?_)
      obtain ⟨rfl, rfl⟩ := hq
      have hP : va_P D vwCl [(h, .inr (0, [.ref a0, .ref a1, .ref a2, .ref a3, .ref a4, .ref a5, .int B_1.2.2.2.2.1, .int B_1.2.2.2.2.2.1, .int B_1.2.2.2.2.2.2])), (a0, .inl (cI, 128, .inl fi)), (a1, .inl (cI, 128, .inl la)), (a2, .inl (cI, 128, .inl B_1.1)), (a3, .inl (cI, 128, .inl B_1.2.1)), (a4, .inl (cI, 128, .inl B_1.2.2.1)), (a5, .inl (cI, 128, .inl B_1.2.2.2.1))] H := hP
      have hD : va_D A [(h, .inr (0, [.ref a0, .ref a1, .ref a2, .ref a3, .ref a4, .ref a5, .int B_1.2.2.2.2.1, .int B_1.2.2.2.2.2.1, .int B_1.2.2.2.2.2.2])), (a0, .inl (cI, 128, .inl fi)), (a1, .inl (cI, 128, .inl la)), (a2, .inl (cI, 128, .inl B_1.1)), (a3, .inl (cI, 128, .inl B_1.2.1)), (a4, .inl (cI, 128, .inl B_1.2.2.1)), (a5, .inl (cI, 128, .inl B_1.2.2.2.1))] := hD
      by_cases b_3 : bWi fi la e a b
      · rw [if_pos b_3]
        refine W.eq (g2 := F0 m 23 ls [.int 1]) rfl ?_
        refine lv_if_ne (tgt := 34) hx hb dX0_greatestFrom_23 (by decide) (fun _ => ?_) (fun c9 => absurd c9 (by decide))
        refine lv_aload_n hx hb dX0_greatestFrom_34 rfl (lv_at hl 0 rfl) ?_
        refine va_get (D := D) (ci := 0) (v := .ref a2) (C := RX0) (T := TX0) (N := 9) hx hb hts hin_X0 hown hK hP 0 rfl rfl 2 (by decide) hf_PressedPlains_Book_18 (fun _ h9 => h9) rfl dX0_greatestFrom_35 ?_
        refine lv_iload_n hx hb dX0_greatestFrom_38 rfl (lv_at hl 1 rfl) ?_
        refine pq_iald hx hb hK hP 3 0 rfl rfl e (by omega) (by decide) dX0_greatestFrom_39 ?_
        exact pq_iret hQ hx hb hr hlocks hK hS hP hD dX0_greatestFrom_40 (by omega) (by omega) (⟨by subst hB_1; rw [bTopFrom, if_neg b_2, if_pos (Or.inl b_3)] <;> rfl, by subst hB_1; rw [bTopFrom, if_neg b_2, if_pos (Or.inl b_3)] <;> rfl⟩)
      · rw [if_neg b_3]
        refine W.eq (g2 := F0 m 23 ls [.int 0]) rfl ?_
        refine lv_if_ne (tgt := 34) hx hb dX0_greatestFrom_23 (by decide) (fun c9 => absurd c9 (by decide)) (fun _ => ?_)
        refine lv_aload_n hx hb dX0_greatestFrom_26 rfl (lv_at hl 0 rfl) ?_
        refine lv_iload_n hx hb dX0_greatestFrom_27 rfl (lv_at hl 1 rfl) ?_
        refine pq_callV (wr := []) (own := RX0) (nL := 4) (q0 := 0) (ci := 0) [0, 1, 2, 3, 4, 5, 6] [] [.int (nI e)] (mX0_hasParts l D cI h a0 a1 a2 a3 a4 a5 fi la B_1 e (by omega)) ⟨hx, hb, hml, hown, hts⟩ (cwV 1 hts gX0_greatestFrom_X0_hasParts rfl rfl rfl (by decide +kernel) ⟨by dsimp only [pq_R]; omega, by dsimp only [pq_R]; omega⟩) pq_bl0 (fun _ _ _ => trivial) hK hP hD hS hA rfl (by decide) rfl (by decide) (by decide) rfl rfl rfl rfl hl.1 rfl (Nat.le_of_ble_eq_true rfl) dX0_greatestFrom_28 ⟨by dsimp only [pq_R]; omega, by dsimp only [pq_R]; omega⟩ (fun v w1 H locs hq hP hD hS hz => ?_)
        obtain ⟨rfl, rfl⟩ := hq
        have hP : va_P D vwCl [(h, .inr (0, [.ref a0, .ref a1, .ref a2, .ref a3, .ref a4, .ref a5, .int B_1.2.2.2.2.1, .int B_1.2.2.2.2.2.1, .int B_1.2.2.2.2.2.2])), (a0, .inl (cI, 128, .inl fi)), (a1, .inl (cI, 128, .inl la)), (a2, .inl (cI, 128, .inl B_1.1)), (a3, .inl (cI, 128, .inl B_1.2.1)), (a4, .inl (cI, 128, .inl B_1.2.2.1)), (a5, .inl (cI, 128, .inl B_1.2.2.2.1))] H := hP
        have hD : va_D A [(h, .inr (0, [.ref a0, .ref a1, .ref a2, .ref a3, .ref a4, .ref a5, .int B_1.2.2.2.2.1, .int B_1.2.2.2.2.2.1, .int B_1.2.2.2.2.2.2])), (a0, .inl (cI, 128, .inl fi)), (a1, .inl (cI, 128, .inl la)), (a2, .inl (cI, 128, .inl B_1.1)), (a3, .inl (cI, 128, .inl B_1.2.1)), (a4, .inl (cI, 128, .inl B_1.2.2.1)), (a5, .inl (cI, 128, .inl B_1.2.2.2.1))] := hD
        by_cases b_4 : bHp fi la e
        · have he64 : e < 64 := bHp_lt (by omega) b_4
          rw [if_pos b_4]
          refine W.eq (g2 := F0 m 31 ls [.int 1]) rfl ?_
          refine lv_if_ne (tgt := 41) hx hb dX0_greatestFrom_31 (by decide) (fun _ => ?_) (fun c9 => absurd c9 (by decide))
          refine lv_aload_n hx hb dX0_greatestFrom_41 rfl (lv_at hl 0 rfl) ?_
          refine lv_iload_n hx hb dX0_greatestFrom_42 rfl (lv_at hl 1 rfl) ?_
          refine pq_callV (wr := []) (own := RX0) (nL := 4) (q0 := 0) (ci := 0) [0, 1, 2, 3, 4, 5, 6] [] [.int (nI e)] (mX0_catchUpBelow l D cI h a0 a1 a2 a3 a4 a5 fi la B_1 e (by omega)) ⟨hx, hb, hml, hown, hts⟩ (cwV 1 hts gX0_greatestFrom_X0_catchUpBelow rfl rfl rfl (by decide +kernel) ⟨by dsimp only [pq_R]; omega, by dsimp only [pq_R]; omega⟩) pq_bl0 (fun _ _ _ => trivial) hK hP hD hS hA rfl (by decide) rfl (by decide) (by decide) rfl rfl rfl rfl hl.1 rfl (Nat.le_of_ble_eq_true rfl) dX0_greatestFrom_43 ⟨by dsimp only [pq_R]; omega, by dsimp only [pq_R]; omega⟩ (fun v w1 H locs hq hP hD hS hz => ?_)
          obtain ⟨rfl, rfl⟩ := hq
          obtain ⟨B_5, hB_5⟩ : ∃ zz, zz = bCatch2 B_1 e := ⟨_, rfl⟩
          rw [← hB_5] at hP hD
          have hP : va_P D vwCl [(h, .inr (0, [.ref a0, .ref a1, .ref a2, .ref a3, .ref a4, .ref a5, .int B_5.2.2.2.2.1, .int B_5.2.2.2.2.2.1, .int B_5.2.2.2.2.2.2])), (a0, .inl (cI, 128, .inl fi)), (a1, .inl (cI, 128, .inl la)), (a2, .inl (cI, 128, .inl B_5.1)), (a3, .inl (cI, 128, .inl B_5.2.1)), (a4, .inl (cI, 128, .inl B_5.2.2.1)), (a5, .inl (cI, 128, .inl B_5.2.2.2.1))] H := hP
          have hD : va_D A [(h, .inr (0, [.ref a0, .ref a1, .ref a2, .ref a3, .ref a4, .ref a5, .int B_5.2.2.2.2.1, .int B_5.2.2.2.2.2.1, .int B_5.2.2.2.2.2.2])), (a0, .inl (cI, 128, .inl fi)), (a1, .inl (cI, 128, .inl la)), (a2, .inl (cI, 128, .inl B_5.1)), (a3, .inl (cI, 128, .inl B_5.2.1)), (a4, .inl (cI, 128, .inl B_5.2.2.1)), (a5, .inl (cI, 128, .inl B_5.2.2.2.1))] := hD
          refine W.eq (g2 := F0 m 46 ls []) rfl ?_
          refine lv_aload_n hx hb dX0_greatestFrom_46 rfl (lv_at hl 0 rfl) ?_
          refine lv_iconst (v := 2) hx hb dX0_greatestFrom_47 (by decide) ?_
          refine lv_iload_n hx hb dX0_greatestFrom_48 rfl (lv_at hl 1 rfl) ?_
          refine lv_imul hx hb dX0_greatestFrom_49 ?_
          refine pq_top (nI (2 * e)) (pk_mul 2 _) ?_
          refine lv_iload_n hx hb dX0_greatestFrom_50 rfl (lv_at hl 2 rfl) ?_
          refine lv_iload_n hx hb dX0_greatestFrom_51 rfl (lv_at hl 3 rfl) ?_
          refine pq_callV (wr := []) (own := RX0) (nL := 4) (q0 := 0) (ci := 0) [0, 1, 2, 3, 4, 5, 6] [] [.int (nI (2 * e)), .int a, .int b] (ih B_5 (2 * e) (by omega) (pw_1 hd)) ⟨hx, hb, hml, hown, hts⟩ (cwV 3 hts gX0_greatestFrom_X0_greatestFrom rfl rfl rfl (by decide +kernel) ⟨by dsimp only [pq_R]; omega, by dsimp only [pq_R]; omega⟩) pq_bl0 (fun _ _ _ => trivial) hK hP hD hS hA rfl (by decide) rfl (by decide) (by decide) rfl rfl rfl rfl hl.1 rfl (Nat.le_of_ble_eq_true rfl) dX0_greatestFrom_52 ⟨by dsimp only [pq_R]; omega, by dsimp only [pq_R]; omega⟩ (fun v w1 H locs hq hP hD hS hz => ?_)
          obtain ⟨rfl, rfl⟩ := hq
          obtain ⟨B_6, hB_6⟩ : ∃ zz, zz = (bTopFrom fi la a b d B_5 (2 * e)).2 := ⟨_, rfl⟩
          rw [← hB_6] at hP hD
          have hP : va_P D vwCl [(h, .inr (0, [.ref a0, .ref a1, .ref a2, .ref a3, .ref a4, .ref a5, .int B_6.2.2.2.2.1, .int B_6.2.2.2.2.2.1, .int B_6.2.2.2.2.2.2])), (a0, .inl (cI, 128, .inl fi)), (a1, .inl (cI, 128, .inl la)), (a2, .inl (cI, 128, .inl B_6.1)), (a3, .inl (cI, 128, .inl B_6.2.1)), (a4, .inl (cI, 128, .inl B_6.2.2.1)), (a5, .inl (cI, 128, .inl B_6.2.2.2.1))] H := hP
          have hD : va_D A [(h, .inr (0, [.ref a0, .ref a1, .ref a2, .ref a3, .ref a4, .ref a5, .int B_6.2.2.2.2.1, .int B_6.2.2.2.2.2.1, .int B_6.2.2.2.2.2.2])), (a0, .inl (cI, 128, .inl fi)), (a1, .inl (cI, 128, .inl la)), (a2, .inl (cI, 128, .inl B_6.1)), (a3, .inl (cI, 128, .inl B_6.2.1)), (a4, .inl (cI, 128, .inl B_6.2.2.1)), (a5, .inl (cI, 128, .inl B_6.2.2.2.1))] := hD
          refine W.eq (g2 := F0 m 55 ls [.int ((bTopFrom fi la a b d B_5 (2 * e)).1)]) rfl ?_
          refine lv_aload_n hx hb dX0_greatestFrom_55 rfl (lv_at hl 0 rfl) ?_
          refine lv_iconst (v := 2) hx hb dX0_greatestFrom_56 (by decide) ?_
          refine lv_iload_n hx hb dX0_greatestFrom_57 rfl (lv_at hl 1 rfl) ?_
          refine lv_imul hx hb dX0_greatestFrom_58 ?_
          refine pq_top (nI (2 * e)) (pk_mul 2 _) ?_
          refine lv_iconst (v := 1) hx hb dX0_greatestFrom_59 (by decide) ?_
          refine lv_iadd hx hb dX0_greatestFrom_60 ?_
          refine pq_top (nI ((2 * e) + 1)) (nI_1 _) ?_
          refine lv_iload_n hx hb dX0_greatestFrom_61 rfl (lv_at hl 2 rfl) ?_
          refine lv_iload_n hx hb dX0_greatestFrom_62 rfl (lv_at hl 3 rfl) ?_
          refine pq_callV (wr := []) (own := RX0) (nL := 4) (q0 := 0) (ci := 0) [0, 1, 2, 3, 4, 5, 6] [] [.int (nI ((2 * e) + 1)), .int a, .int b] (ih B_6 ((2 * e) + 1) (by omega) (pw_2 hd)) ⟨hx, hb, hml, hown, hts⟩ (cwV 3 hts gX0_greatestFrom_X0_greatestFrom rfl rfl rfl (by decide +kernel) ⟨by dsimp only [pq_R]; omega, by dsimp only [pq_R]; omega⟩) pq_bl0 (fun _ _ _ => trivial) hK hP hD hS hA rfl (by decide) rfl (by decide) (by decide) rfl rfl rfl rfl hl.1 rfl (Nat.le_of_ble_eq_true rfl) dX0_greatestFrom_63 ⟨by dsimp only [pq_R]; omega, by dsimp only [pq_R]; omega⟩ (fun v w1 H locs hq hP hD hS hz => ?_)
          obtain ⟨rfl, rfl⟩ := hq
          obtain ⟨B_7, hB_7⟩ : ∃ zz, zz = (bTopFrom fi la a b d B_6 ((2 * e) + 1)).2 := ⟨_, rfl⟩
          rw [← hB_7] at hP hD
          have hP : va_P D vwCl [(h, .inr (0, [.ref a0, .ref a1, .ref a2, .ref a3, .ref a4, .ref a5, .int B_7.2.2.2.2.1, .int B_7.2.2.2.2.2.1, .int B_7.2.2.2.2.2.2])), (a0, .inl (cI, 128, .inl fi)), (a1, .inl (cI, 128, .inl la)), (a2, .inl (cI, 128, .inl B_7.1)), (a3, .inl (cI, 128, .inl B_7.2.1)), (a4, .inl (cI, 128, .inl B_7.2.2.1)), (a5, .inl (cI, 128, .inl B_7.2.2.2.1))] H := hP
          have hD : va_D A [(h, .inr (0, [.ref a0, .ref a1, .ref a2, .ref a3, .ref a4, .ref a5, .int B_7.2.2.2.2.1, .int B_7.2.2.2.2.2.1, .int B_7.2.2.2.2.2.2])), (a0, .inl (cI, 128, .inl fi)), (a1, .inl (cI, 128, .inl la)), (a2, .inl (cI, 128, .inl B_7.1)), (a3, .inl (cI, 128, .inl B_7.2.1)), (a4, .inl (cI, 128, .inl B_7.2.2.1)), (a5, .inl (cI, 128, .inl B_7.2.2.2.1))] := hD
          refine W.eq (g2 := F0 m 66 ls [.int ((bTopFrom fi la a b d B_6 ((2 * e) + 1)).1), .int ((bTopFrom fi la a b d B_5 (2 * e)).1)]) rfl ?_
          refine va_mmax hx hb (hml.trans hl.1.symm) hown hm1_max101 hm2_max hm3 hm4_max (by first | exact Nat.le_of_ble_eq_true rfl | (dsimp only [pq_R]; omega)) (by first | exact Nat.le_of_ble_eq_true rfl | (simp only [List.map_nil, List.map_cons, List.sum_nil, List.sum_cons, pq_R, Value.category]; omega)) (Nat.le_of_ble_eq_true rfl) (Nat.le_of_ble_eq_true rfl) dX0_greatestFrom_66 ?_
          refine pq_top (bMax ((bTopFrom fi la a b d B_5 (2 * e)).1) ((bTopFrom fi la a b d B_6 ((2 * e) + 1)).1)) rfl ?_
          exact pq_iret hQ hx hb hr hlocks hK hS hP hD dX0_greatestFrom_69 (by omega) (by omega) (⟨by subst hB_7; subst hB_6; subst hB_5; subst hB_1; rw [bTopFrom, if_neg b_2, if_neg (fun h => h.elim b_3 (fun h => h b_4))] <;> rfl, by subst hB_7; subst hB_6; subst hB_5; subst hB_1; rw [bTopFrom, if_neg b_2, if_neg (fun h => h.elim b_3 (fun h => h b_4))] <;> rfl⟩)
        · rw [if_neg b_4]
          refine W.eq (g2 := F0 m 31 ls [.int 0]) rfl ?_
          refine lv_if_ne (tgt := 41) hx hb dX0_greatestFrom_31 (by decide) (fun c9 => absurd c9 (by decide)) (fun _ => ?_)
          refine lv_aload_n hx hb dX0_greatestFrom_34 rfl (lv_at hl 0 rfl) ?_
          refine va_get (D := D) (ci := 0) (v := .ref a2) (C := RX0) (T := TX0) (N := 9) hx hb hts hin_X0 hown hK hP 0 rfl rfl 2 (by decide) hf_PressedPlains_Book_18 (fun _ h9 => h9) rfl dX0_greatestFrom_35 ?_
          refine lv_iload_n hx hb dX0_greatestFrom_38 rfl (lv_at hl 1 rfl) ?_
          refine pq_iald hx hb hK hP 3 0 rfl rfl e (by omega) (by decide) dX0_greatestFrom_39 ?_
          exact pq_iret hQ hx hb hr hlocks hK hS hP hD dX0_greatestFrom_40 (by omega) (by omega) (⟨by subst hB_1; rw [bTopFrom, if_neg b_2, if_pos (Or.inr b_4)] <;> rfl, by subst hB_1; rw [bTopFrom, if_neg b_2, if_pos (Or.inr b_4)] <;> rfl⟩)
end
section
set_option maxHeartbeats 4000000 in
set_option maxRecDepth 100000 in
theorem mX0_has (l : Launch) (D : va_G) (cI : ClassId) (h a0 a1 a2 a3 a4 a5 : Nat) (fi la : Nat → Int32) (B : BK) (x : Int32) : pq_M l yX0_has wsX0_has 0 0 0 0 D [(cI, .int)] pq_0 (bkW h a0 a1 a2 a3 a4 a5 cI fi la B) [.ref h, .int x] (fun v w1 => v = some (.int (if bHas la x then 1 else 0)) ∧ w1 = bkW h a0 a1 a2 a3 a4 a5 cI fi la B) := by
  refine pq_enter (cc := cX0_has) (maxL := 2) (ret := (some .boolean)) (by decide) rfl (Nat.le_of_ble_eq_true rfl) ?_
  intro p ev s m args below meth cd A ls Q H locs hx hb hr hml hts hown hlocks hnm hK hP hD hS hA hE hl hQ
  have hl : lv_has ls 2 [(0, .ref h), (1, .int x)] := hl
  have hP : va_P D vwCl [(h, .inr (0, [.ref a0, .ref a1, .ref a2, .ref a3, .ref a4, .ref a5, .int B.2.2.2.2.1, .int B.2.2.2.2.2.1, .int B.2.2.2.2.2.2])), (a0, .inl (cI, 128, .inl fi)), (a1, .inl (cI, 128, .inl la)), (a2, .inl (cI, 128, .inl B.1)), (a3, .inl (cI, 128, .inl B.2.1)), (a4, .inl (cI, 128, .inl B.2.2.1)), (a5, .inl (cI, 128, .inl B.2.2.2.1))] H := hP
  have hD : va_D A [(h, .inr (0, [.ref a0, .ref a1, .ref a2, .ref a3, .ref a4, .ref a5, .int B.2.2.2.2.1, .int B.2.2.2.2.2.1, .int B.2.2.2.2.2.2])), (a0, .inl (cI, 128, .inl fi)), (a1, .inl (cI, 128, .inl la)), (a2, .inl (cI, 128, .inl B.1)), (a3, .inl (cI, 128, .inl B.2.1)), (a4, .inl (cI, 128, .inl B.2.2.1)), (a5, .inl (cI, 128, .inl B.2.2.2.1))] := hD
  have hin_X0 : ∀ w ∈ wsX00, w ∈ wsX0_has := by decide +kernel
  have hf_PressedPlains_Book_15 := hts (.fieldLink RX0 15 "PressedPlains$Book" "last" "[I") (by decide +kernel)
  refine lv_iload_n hx hb dX0_has_0 rfl (lv_at hl 1 rfl) ?_
  refine lv_iconst (v := 1) hx hb dX0_has_1 (by decide) ?_
  refine lv_icmp_lt (tgt := 26) hx hb dX0_has_2 (by decide) (fun c_1 => ?_) (fun c_1 => ?_)
  · refine lv_iconst (v := 0) hx hb dX0_has_26 (by decide) ?_
    exact pq_zret hQ hx hb hr hlocks hK hS hP hD dX0_has_27 (by omega) (by omega) (by decide) (⟨by rw [if_neg (show ¬ (bHas la x) from fun h => h.1 c_1)], rfl⟩)
  · refine lv_iload_n hx hb dX0_has_5 rfl (lv_at hl 1 rfl) ?_
    refine lv_sipush (v := 128) hx hb dX0_has_6 (by decide) ?_
    refine lv_icmp_ge (tgt := 26) hx hb dX0_has_9 (by decide) (fun c_2 => ?_) (fun c_2 => ?_)
    · refine lv_iconst (v := 0) hx hb dX0_has_26 (by decide) ?_
      exact pq_zret hQ hx hb hr hlocks hK hS hP hD dX0_has_27 (by omega) (by omega) (by decide) (⟨by rw [if_neg (show ¬ (bHas la x) from fun h => h.2.1 c_2)], rfl⟩)
    · refine lv_aload_n hx hb dX0_has_12 rfl (lv_at hl 0 rfl) ?_
      refine va_get (D := D) (ci := 0) (v := .ref a1) (C := RX0) (T := TX0) (N := 9) hx hb hts hin_X0 hown hK hP 0 rfl rfl 1 (by decide) hf_PressedPlains_Book_15 (fun _ h9 => h9) rfl dX0_has_13 ?_
      refine lv_iload_n hx hb dX0_has_16 rfl (lv_at hl 1 rfl) ?_
      refine va_iald hx hb hK hP 2 0 rfl rfl (bHas_in c_1 c_2) dX0_has_17 ?_
      refine lv_iconst (v := (-1)) hx hb dX0_has_18 (by decide) ?_
      refine lv_icmp_eq (tgt := 26) hx hb dX0_has_19 (by decide) (fun c_3 => ?_) (fun c_3 => ?_)
      · refine lv_iconst (v := 0) hx hb dX0_has_26 (by decide) ?_
        exact pq_zret hQ hx hb hr hlocks hK hS hP hD dX0_has_27 (by omega) (by omega) (by decide) (⟨by rw [if_neg (show ¬ (bHas la x) from fun h => h.2.2 c_3)], rfl⟩)
      · refine lv_iconst (v := 1) hx hb dX0_has_22 (by decide) ?_
        refine lv_goto (tgt := 27) hx hb dX0_has_23 (by decide) ?_
        exact pq_zret hQ hx hb hr hlocks hK hS hP hD dX0_has_27 (by omega) (by omega) (by decide) (⟨by rw [if_pos (show bHas la x from ⟨c_1, c_2, c_3⟩)], rfl⟩)

set_option maxHeartbeats 4000000 in
set_option maxRecDepth 100000 in
theorem mX0_press (l : Launch) (D : va_G) (cI : ClassId) (h a0 a1 a2 a3 a4 a5 : Nat) (fi la : Nat → Int32) (B : BK) (a b c0 : Int32) : pq_M l yX0_press wsX0_press 12 289 0 0 D [(cI, .int)] pq_0 (bkW h a0 a1 a2 a3 a4 a5 cI fi la B) [.ref h, .int a, .int b, .int c0] (fun v w1 => v = some (.int (B.2.2.2.1 1 - (bPressFrom fi la a b c0 7 (bBegin B) 1).2.2.2.1 1)) ∧ w1 = bkW h a0 a1 a2 a3 a4 a5 cI fi la (bPressFrom fi la a b c0 7 (bBegin B) 1)) := by
  refine pq_enter (cc := cX0_press) (maxL := 5) (ret := (some .int)) (by decide) rfl (Nat.le_of_ble_eq_true rfl) ?_
  intro p ev s m args below meth cd A ls Q H locs hx hb hr hml hts hown hlocks hnm hK hP hD hS hA hE hl hQ
  have hl : lv_has ls 5 [(0, .ref h), (1, .int a), (2, .int b), (3, .int c0)] := hl
  have hP : va_P D vwCl [(h, .inr (0, [.ref a0, .ref a1, .ref a2, .ref a3, .ref a4, .ref a5, .int B.2.2.2.2.1, .int B.2.2.2.2.2.1, .int B.2.2.2.2.2.2])), (a0, .inl (cI, 128, .inl fi)), (a1, .inl (cI, 128, .inl la)), (a2, .inl (cI, 128, .inl B.1)), (a3, .inl (cI, 128, .inl B.2.1)), (a4, .inl (cI, 128, .inl B.2.2.1)), (a5, .inl (cI, 128, .inl B.2.2.2.1))] H := hP
  have hD : va_D A [(h, .inr (0, [.ref a0, .ref a1, .ref a2, .ref a3, .ref a4, .ref a5, .int B.2.2.2.2.1, .int B.2.2.2.2.2.1, .int B.2.2.2.2.2.2])), (a0, .inl (cI, 128, .inl fi)), (a1, .inl (cI, 128, .inl la)), (a2, .inl (cI, 128, .inl B.1)), (a3, .inl (cI, 128, .inl B.2.1)), (a4, .inl (cI, 128, .inl B.2.2.1)), (a5, .inl (cI, 128, .inl B.2.2.2.1))] := hD
  have hin_X0 : ∀ w ∈ wsX00, w ∈ wsX0_press := by decide +kernel
  have hf_PressedPlains_Book_27 := hts (.fieldLink RX0 27 "PressedPlains$Book" "sum" "[I") (by decide +kernel)
  refine lv_aload_n hx hb dX0_press_0 rfl (lv_at hl 0 rfl) ?_
  refine pq_callV (wr := []) (own := RX0) (nL := 5) (q0 := 0) (ci := 0) [0, 1, 2, 3, 4, 5, 6] [] [] (mX0_beginCall l D cI h a0 a1 a2 a3 a4 a5 fi la B ) ⟨hx, hb, hml, hown, hts⟩ (cwV 0 hts gX0_press_X0_beginCall rfl rfl rfl (by decide +kernel) ⟨by dsimp only [pq_R]; omega, by dsimp only [pq_R]; omega⟩) pq_bl0 (fun _ _ _ => trivial) hK hP hD hS hA rfl (by decide) rfl (by decide) (by decide) rfl rfl rfl rfl hl.1 rfl (Nat.le_of_ble_eq_true rfl) dX0_press_1 ⟨by dsimp only [pq_R]; omega, by dsimp only [pq_R]; omega⟩ (fun v w1 H locs hq hP hD hS hz => ?_)
  obtain ⟨rfl, rfl⟩ := hq
  obtain ⟨B_1, hB_1⟩ : ∃ zz, zz = bBegin B := ⟨_, rfl⟩
  rw [← hB_1] at hP hD
  have hP : va_P D vwCl [(h, .inr (0, [.ref a0, .ref a1, .ref a2, .ref a3, .ref a4, .ref a5, .int B_1.2.2.2.2.1, .int B_1.2.2.2.2.2.1, .int B_1.2.2.2.2.2.2])), (a0, .inl (cI, 128, .inl fi)), (a1, .inl (cI, 128, .inl la)), (a2, .inl (cI, 128, .inl B_1.1)), (a3, .inl (cI, 128, .inl B_1.2.1)), (a4, .inl (cI, 128, .inl B_1.2.2.1)), (a5, .inl (cI, 128, .inl B_1.2.2.2.1))] H := hP
  have hD : va_D A [(h, .inr (0, [.ref a0, .ref a1, .ref a2, .ref a3, .ref a4, .ref a5, .int B_1.2.2.2.2.1, .int B_1.2.2.2.2.2.1, .int B_1.2.2.2.2.2.2])), (a0, .inl (cI, 128, .inl fi)), (a1, .inl (cI, 128, .inl la)), (a2, .inl (cI, 128, .inl B_1.1)), (a3, .inl (cI, 128, .inl B_1.2.1)), (a4, .inl (cI, 128, .inl B_1.2.2.1)), (a5, .inl (cI, 128, .inl B_1.2.2.2.1))] := hD
  refine W.eq (g2 := F0 m 4 ls []) rfl ?_
  refine lv_aload_n hx hb dX0_press_4 rfl (lv_at hl 0 rfl) ?_
  refine va_get (D := D) (ci := 0) (v := .ref a5) (C := RX0) (T := TX0) (N := 9) hx hb hts hin_X0 hown hK hP 0 rfl rfl 5 (by decide) hf_PressedPlains_Book_27 (fun _ h9 => h9) rfl dX0_press_5 ?_
  refine lv_iconst (v := 1) hx hb dX0_press_8 (by decide) ?_
  refine pq_iald hx hb hK hP 6 0 rfl rfl 1 (by omega) (by decide) dX0_press_9 ?_
  refine lv_istore (lv' := [(4, .int (B_1.2.2.2.1 1)), (0, .ref h), (1, .int a), (2, .int b), (3, .int c0)]) hx hb dX0_press_10 hl (by decide) rfl (fun ls hl => ?_)
  refine lv_aload_n hx hb dX0_press_12 rfl (lv_at hl 1 rfl) ?_
  refine lv_iconst (v := 1) hx hb dX0_press_13 (by decide) ?_
  refine lv_iload_n hx hb dX0_press_14 rfl (lv_at hl 2 rfl) ?_
  refine lv_iload_n hx hb dX0_press_15 rfl (lv_at hl 3 rfl) ?_
  refine lv_iload_n hx hb dX0_press_16 rfl (lv_at hl 4 rfl) ?_
  refine pq_callV (wr := []) (own := RX0) (nL := 5) (q0 := 0) (ci := 0) [0, 1, 2, 3, 4, 5, 6] [] [.int 1, .int a, .int b, .int c0] (mX0_pressFrom l D cI h a0 a1 a2 a3 a4 a5 fi la a b c0 7 B_1 1 (by decide) (by decide)) ⟨hx, hb, hml, hown, hts⟩ (cwV 4 hts gX0_press_X0_pressFrom rfl rfl rfl (by decide +kernel) ⟨by dsimp only [pq_R]; omega, by dsimp only [pq_R]; omega⟩) pq_bl0 (fun _ _ _ => trivial) hK hP hD hS hA rfl (by decide) rfl (by decide) (by decide) rfl rfl rfl rfl hl.1 rfl (Nat.le_of_ble_eq_true rfl) dX0_press_17 ⟨by dsimp only [pq_R]; omega, by dsimp only [pq_R]; omega⟩ (fun v w1 H locs hq hP hD hS hz => ?_)
  obtain ⟨rfl, rfl⟩ := hq
  obtain ⟨B_2, hB_2⟩ : ∃ zz, zz = bPressFrom fi la a b c0 7 B_1 1 := ⟨_, rfl⟩
  rw [← hB_2] at hP hD
  have hP : va_P D vwCl [(h, .inr (0, [.ref a0, .ref a1, .ref a2, .ref a3, .ref a4, .ref a5, .int B_2.2.2.2.2.1, .int B_2.2.2.2.2.2.1, .int B_2.2.2.2.2.2.2])), (a0, .inl (cI, 128, .inl fi)), (a1, .inl (cI, 128, .inl la)), (a2, .inl (cI, 128, .inl B_2.1)), (a3, .inl (cI, 128, .inl B_2.2.1)), (a4, .inl (cI, 128, .inl B_2.2.2.1)), (a5, .inl (cI, 128, .inl B_2.2.2.2.1))] H := hP
  have hD : va_D A [(h, .inr (0, [.ref a0, .ref a1, .ref a2, .ref a3, .ref a4, .ref a5, .int B_2.2.2.2.2.1, .int B_2.2.2.2.2.2.1, .int B_2.2.2.2.2.2.2])), (a0, .inl (cI, 128, .inl fi)), (a1, .inl (cI, 128, .inl la)), (a2, .inl (cI, 128, .inl B_2.1)), (a3, .inl (cI, 128, .inl B_2.2.1)), (a4, .inl (cI, 128, .inl B_2.2.2.1)), (a5, .inl (cI, 128, .inl B_2.2.2.2.1))] := hD
  refine W.eq (g2 := F0 m 20 ls []) rfl ?_
  refine lv_iload hx hb dX0_press_20 (lv_at hl 0 rfl) ?_
  refine lv_aload_n hx hb dX0_press_22 rfl (lv_at hl 1 rfl) ?_
  refine va_get (D := D) (ci := 0) (v := .ref a5) (C := RX0) (T := TX0) (N := 9) hx hb hts hin_X0 hown hK hP 0 rfl rfl 5 (by decide) hf_PressedPlains_Book_27 (fun _ h9 => h9) rfl dX0_press_23 ?_
  refine lv_iconst (v := 1) hx hb dX0_press_26 (by decide) ?_
  refine pq_iald hx hb hK hP 6 0 rfl rfl 1 (by omega) (by decide) dX0_press_27 ?_
  refine lv_isub hx hb dX0_press_28 ?_
  exact pq_iret hQ hx hb hr hlocks hK hS hP hD dX0_press_29 (by omega) (by omega) (⟨by subst hB_2; subst hB_1; rfl, by subst hB_2; subst hB_1; rfl⟩)

set_option maxHeartbeats 4000000 in
set_option maxRecDepth 100000 in
theorem mX0_raise (l : Launch) (D : va_G) (cI : ClassId) (h a0 a1 a2 a3 a4 a5 : Nat) (fi la : Nat → Int32) (B : BK) (x v0 : Int32) : pq_M l yX0_raise wsX0_raise 12 280 0 0 D [(cI, .int)] pq_0 (bkW h a0 a1 a2 a3 a4 a5 cI fi la B) [.ref h, .int x, .int v0] (fun v w1 => v = none ∧ w1 = bkW h a0 a1 a2 a3 a4 a5 cI fi la (bRaiseFrom fi la x v0 7 (bBegin B) 1)) := by
  refine pq_enter (cc := cX0_raise) (maxL := 3) (ret := none) (by decide) rfl (Nat.le_of_ble_eq_true rfl) ?_
  intro p ev s m args below meth cd A ls Q H locs hx hb hr hml hts hown hlocks hnm hK hP hD hS hA hE hl hQ
  have hl : lv_has ls 3 [(0, .ref h), (1, .int x), (2, .int v0)] := hl
  have hP : va_P D vwCl [(h, .inr (0, [.ref a0, .ref a1, .ref a2, .ref a3, .ref a4, .ref a5, .int B.2.2.2.2.1, .int B.2.2.2.2.2.1, .int B.2.2.2.2.2.2])), (a0, .inl (cI, 128, .inl fi)), (a1, .inl (cI, 128, .inl la)), (a2, .inl (cI, 128, .inl B.1)), (a3, .inl (cI, 128, .inl B.2.1)), (a4, .inl (cI, 128, .inl B.2.2.1)), (a5, .inl (cI, 128, .inl B.2.2.2.1))] H := hP
  have hD : va_D A [(h, .inr (0, [.ref a0, .ref a1, .ref a2, .ref a3, .ref a4, .ref a5, .int B.2.2.2.2.1, .int B.2.2.2.2.2.1, .int B.2.2.2.2.2.2])), (a0, .inl (cI, 128, .inl fi)), (a1, .inl (cI, 128, .inl la)), (a2, .inl (cI, 128, .inl B.1)), (a3, .inl (cI, 128, .inl B.2.1)), (a4, .inl (cI, 128, .inl B.2.2.1)), (a5, .inl (cI, 128, .inl B.2.2.2.1))] := hD
  refine lv_aload_n hx hb dX0_raise_0 rfl (lv_at hl 0 rfl) ?_
  refine pq_callV (wr := []) (own := RX0) (nL := 3) (q0 := 0) (ci := 0) [0, 1, 2, 3, 4, 5, 6] [] [] (mX0_beginCall l D cI h a0 a1 a2 a3 a4 a5 fi la B ) ⟨hx, hb, hml, hown, hts⟩ (cwV 0 hts gX0_raise_X0_beginCall rfl rfl rfl (by decide +kernel) ⟨by dsimp only [pq_R]; omega, by dsimp only [pq_R]; omega⟩) pq_bl0 (fun _ _ _ => trivial) hK hP hD hS hA rfl (by decide) rfl (by decide) (by decide) rfl rfl rfl rfl hl.1 rfl (Nat.le_of_ble_eq_true rfl) dX0_raise_1 ⟨by dsimp only [pq_R]; omega, by dsimp only [pq_R]; omega⟩ (fun v w1 H locs hq hP hD hS hz => ?_)
  obtain ⟨rfl, rfl⟩ := hq
  obtain ⟨B_1, hB_1⟩ : ∃ zz, zz = bBegin B := ⟨_, rfl⟩
  rw [← hB_1] at hP hD
  have hP : va_P D vwCl [(h, .inr (0, [.ref a0, .ref a1, .ref a2, .ref a3, .ref a4, .ref a5, .int B_1.2.2.2.2.1, .int B_1.2.2.2.2.2.1, .int B_1.2.2.2.2.2.2])), (a0, .inl (cI, 128, .inl fi)), (a1, .inl (cI, 128, .inl la)), (a2, .inl (cI, 128, .inl B_1.1)), (a3, .inl (cI, 128, .inl B_1.2.1)), (a4, .inl (cI, 128, .inl B_1.2.2.1)), (a5, .inl (cI, 128, .inl B_1.2.2.2.1))] H := hP
  have hD : va_D A [(h, .inr (0, [.ref a0, .ref a1, .ref a2, .ref a3, .ref a4, .ref a5, .int B_1.2.2.2.2.1, .int B_1.2.2.2.2.2.1, .int B_1.2.2.2.2.2.2])), (a0, .inl (cI, 128, .inl fi)), (a1, .inl (cI, 128, .inl la)), (a2, .inl (cI, 128, .inl B_1.1)), (a3, .inl (cI, 128, .inl B_1.2.1)), (a4, .inl (cI, 128, .inl B_1.2.2.1)), (a5, .inl (cI, 128, .inl B_1.2.2.2.1))] := hD
  refine W.eq (g2 := F0 m 4 ls []) rfl ?_
  refine lv_aload_n hx hb dX0_raise_4 rfl (lv_at hl 0 rfl) ?_
  refine lv_iconst (v := 1) hx hb dX0_raise_5 (by decide) ?_
  refine lv_iload_n hx hb dX0_raise_6 rfl (lv_at hl 1 rfl) ?_
  refine lv_iload_n hx hb dX0_raise_7 rfl (lv_at hl 2 rfl) ?_
  refine pq_callV (wr := []) (own := RX0) (nL := 3) (q0 := 0) (ci := 0) [0, 1, 2, 3, 4, 5, 6] [] [.int 1, .int x, .int v0] (mX0_raiseFrom l D cI h a0 a1 a2 a3 a4 a5 fi la x v0 7 B_1 1 (by decide) (by decide)) ⟨hx, hb, hml, hown, hts⟩ (cwV 3 hts gX0_raise_X0_raiseFrom rfl rfl rfl (by decide +kernel) ⟨by dsimp only [pq_R]; omega, by dsimp only [pq_R]; omega⟩) pq_bl0 (fun _ _ _ => trivial) hK hP hD hS hA rfl (by decide) rfl (by decide) (by decide) rfl rfl rfl rfl hl.1 rfl (Nat.le_of_ble_eq_true rfl) dX0_raise_8 ⟨by dsimp only [pq_R]; omega, by dsimp only [pq_R]; omega⟩ (fun v w1 H locs hq hP hD hS hz => ?_)
  obtain ⟨rfl, rfl⟩ := hq
  obtain ⟨B_2, hB_2⟩ : ∃ zz, zz = bRaiseFrom fi la x v0 7 B_1 1 := ⟨_, rfl⟩
  rw [← hB_2] at hP hD
  have hP : va_P D vwCl [(h, .inr (0, [.ref a0, .ref a1, .ref a2, .ref a3, .ref a4, .ref a5, .int B_2.2.2.2.2.1, .int B_2.2.2.2.2.2.1, .int B_2.2.2.2.2.2.2])), (a0, .inl (cI, 128, .inl fi)), (a1, .inl (cI, 128, .inl la)), (a2, .inl (cI, 128, .inl B_2.1)), (a3, .inl (cI, 128, .inl B_2.2.1)), (a4, .inl (cI, 128, .inl B_2.2.2.1)), (a5, .inl (cI, 128, .inl B_2.2.2.2.1))] H := hP
  have hD : va_D A [(h, .inr (0, [.ref a0, .ref a1, .ref a2, .ref a3, .ref a4, .ref a5, .int B_2.2.2.2.2.1, .int B_2.2.2.2.2.2.1, .int B_2.2.2.2.2.2.2])), (a0, .inl (cI, 128, .inl fi)), (a1, .inl (cI, 128, .inl la)), (a2, .inl (cI, 128, .inl B_2.1)), (a3, .inl (cI, 128, .inl B_2.2.1)), (a4, .inl (cI, 128, .inl B_2.2.2.1)), (a5, .inl (cI, 128, .inl B_2.2.2.2.1))] := hD
  refine W.eq (g2 := F0 m 11 ls []) rfl ?_
  exact pq_vret hQ hx hb hr hlocks hK hS hP hD dX0_raise_11 (by omega) (by omega) (⟨rfl, by subst hB_2; subst hB_1; rfl⟩)

set_option maxHeartbeats 4000000 in
set_option maxRecDepth 100000 in
theorem mX0_askSum (l : Launch) (D : va_G) (cI : ClassId) (h a0 a1 a2 a3 a4 a5 : Nat) (fi la : Nat → Int32) (B : BK) (a b : Int32) : pq_M l yX0_askSum wsX0_askSum 12 271 0 0 D [(cI, .int)] pq_0 (bkW h a0 a1 a2 a3 a4 a5 cI fi la B) [.ref h, .int a, .int b] (fun v w1 => v = some (.int (bSumFrom fi la a b 7 (bBegin B) 1).1) ∧ w1 = bkW h a0 a1 a2 a3 a4 a5 cI fi la (bSumFrom fi la a b 7 (bBegin B) 1).2) := by
  refine pq_enter (cc := cX0_askSum) (maxL := 3) (ret := (some .int)) (by decide) rfl (Nat.le_of_ble_eq_true rfl) ?_
  intro p ev s m args below meth cd A ls Q H locs hx hb hr hml hts hown hlocks hnm hK hP hD hS hA hE hl hQ
  have hl : lv_has ls 3 [(0, .ref h), (1, .int a), (2, .int b)] := hl
  have hP : va_P D vwCl [(h, .inr (0, [.ref a0, .ref a1, .ref a2, .ref a3, .ref a4, .ref a5, .int B.2.2.2.2.1, .int B.2.2.2.2.2.1, .int B.2.2.2.2.2.2])), (a0, .inl (cI, 128, .inl fi)), (a1, .inl (cI, 128, .inl la)), (a2, .inl (cI, 128, .inl B.1)), (a3, .inl (cI, 128, .inl B.2.1)), (a4, .inl (cI, 128, .inl B.2.2.1)), (a5, .inl (cI, 128, .inl B.2.2.2.1))] H := hP
  have hD : va_D A [(h, .inr (0, [.ref a0, .ref a1, .ref a2, .ref a3, .ref a4, .ref a5, .int B.2.2.2.2.1, .int B.2.2.2.2.2.1, .int B.2.2.2.2.2.2])), (a0, .inl (cI, 128, .inl fi)), (a1, .inl (cI, 128, .inl la)), (a2, .inl (cI, 128, .inl B.1)), (a3, .inl (cI, 128, .inl B.2.1)), (a4, .inl (cI, 128, .inl B.2.2.1)), (a5, .inl (cI, 128, .inl B.2.2.2.1))] := hD
  refine lv_aload_n hx hb dX0_askSum_0 rfl (lv_at hl 0 rfl) ?_
  refine pq_callV (wr := []) (own := RX0) (nL := 3) (q0 := 0) (ci := 0) [0, 1, 2, 3, 4, 5, 6] [] [] (mX0_beginCall l D cI h a0 a1 a2 a3 a4 a5 fi la B ) ⟨hx, hb, hml, hown, hts⟩ (cwV 0 hts gX0_askSum_X0_beginCall rfl rfl rfl (by decide +kernel) ⟨by dsimp only [pq_R]; omega, by dsimp only [pq_R]; omega⟩) pq_bl0 (fun _ _ _ => trivial) hK hP hD hS hA rfl (by decide) rfl (by decide) (by decide) rfl rfl rfl rfl hl.1 rfl (Nat.le_of_ble_eq_true rfl) dX0_askSum_1 ⟨by dsimp only [pq_R]; omega, by dsimp only [pq_R]; omega⟩ (fun v w1 H locs hq hP hD hS hz => ?_)
  obtain ⟨rfl, rfl⟩ := hq
  obtain ⟨B_1, hB_1⟩ : ∃ zz, zz = bBegin B := ⟨_, rfl⟩
  rw [← hB_1] at hP hD
  have hP : va_P D vwCl [(h, .inr (0, [.ref a0, .ref a1, .ref a2, .ref a3, .ref a4, .ref a5, .int B_1.2.2.2.2.1, .int B_1.2.2.2.2.2.1, .int B_1.2.2.2.2.2.2])), (a0, .inl (cI, 128, .inl fi)), (a1, .inl (cI, 128, .inl la)), (a2, .inl (cI, 128, .inl B_1.1)), (a3, .inl (cI, 128, .inl B_1.2.1)), (a4, .inl (cI, 128, .inl B_1.2.2.1)), (a5, .inl (cI, 128, .inl B_1.2.2.2.1))] H := hP
  have hD : va_D A [(h, .inr (0, [.ref a0, .ref a1, .ref a2, .ref a3, .ref a4, .ref a5, .int B_1.2.2.2.2.1, .int B_1.2.2.2.2.2.1, .int B_1.2.2.2.2.2.2])), (a0, .inl (cI, 128, .inl fi)), (a1, .inl (cI, 128, .inl la)), (a2, .inl (cI, 128, .inl B_1.1)), (a3, .inl (cI, 128, .inl B_1.2.1)), (a4, .inl (cI, 128, .inl B_1.2.2.1)), (a5, .inl (cI, 128, .inl B_1.2.2.2.1))] := hD
  refine W.eq (g2 := F0 m 4 ls []) rfl ?_
  refine lv_aload_n hx hb dX0_askSum_4 rfl (lv_at hl 0 rfl) ?_
  refine lv_iconst (v := 1) hx hb dX0_askSum_5 (by decide) ?_
  refine lv_iload_n hx hb dX0_askSum_6 rfl (lv_at hl 1 rfl) ?_
  refine lv_iload_n hx hb dX0_askSum_7 rfl (lv_at hl 2 rfl) ?_
  refine pq_callV (wr := []) (own := RX0) (nL := 3) (q0 := 0) (ci := 0) [0, 1, 2, 3, 4, 5, 6] [] [.int 1, .int a, .int b] (mX0_sumFrom l D cI h a0 a1 a2 a3 a4 a5 fi la a b 7 B_1 1 (by decide) (by decide)) ⟨hx, hb, hml, hown, hts⟩ (cwV 3 hts gX0_askSum_X0_sumFrom rfl rfl rfl (by decide +kernel) ⟨by dsimp only [pq_R]; omega, by dsimp only [pq_R]; omega⟩) pq_bl0 (fun _ _ _ => trivial) hK hP hD hS hA rfl (by decide) rfl (by decide) (by decide) rfl rfl rfl rfl hl.1 rfl (Nat.le_of_ble_eq_true rfl) dX0_askSum_8 ⟨by dsimp only [pq_R]; omega, by dsimp only [pq_R]; omega⟩ (fun v w1 H locs hq hP hD hS hz => ?_)
  obtain ⟨rfl, rfl⟩ := hq
  obtain ⟨B_2, hB_2⟩ : ∃ zz, zz = (bSumFrom fi la a b 7 B_1 1).2 := ⟨_, rfl⟩
  rw [← hB_2] at hP hD
  have hP : va_P D vwCl [(h, .inr (0, [.ref a0, .ref a1, .ref a2, .ref a3, .ref a4, .ref a5, .int B_2.2.2.2.2.1, .int B_2.2.2.2.2.2.1, .int B_2.2.2.2.2.2.2])), (a0, .inl (cI, 128, .inl fi)), (a1, .inl (cI, 128, .inl la)), (a2, .inl (cI, 128, .inl B_2.1)), (a3, .inl (cI, 128, .inl B_2.2.1)), (a4, .inl (cI, 128, .inl B_2.2.2.1)), (a5, .inl (cI, 128, .inl B_2.2.2.2.1))] H := hP
  have hD : va_D A [(h, .inr (0, [.ref a0, .ref a1, .ref a2, .ref a3, .ref a4, .ref a5, .int B_2.2.2.2.2.1, .int B_2.2.2.2.2.2.1, .int B_2.2.2.2.2.2.2])), (a0, .inl (cI, 128, .inl fi)), (a1, .inl (cI, 128, .inl la)), (a2, .inl (cI, 128, .inl B_2.1)), (a3, .inl (cI, 128, .inl B_2.2.1)), (a4, .inl (cI, 128, .inl B_2.2.2.1)), (a5, .inl (cI, 128, .inl B_2.2.2.2.1))] := hD
  refine W.eq (g2 := F0 m 11 ls [.int ((bSumFrom fi la a b 7 B_1 1).1)]) rfl ?_
  exact pq_iret hQ hx hb hr hlocks hK hS hP hD dX0_askSum_11 (by omega) (by omega) (⟨by subst hB_2; subst hB_1; rfl, by subst hB_2; subst hB_1; rfl⟩)

set_option maxHeartbeats 4000000 in
set_option maxRecDepth 100000 in
theorem mX0_askGreatest (l : Launch) (D : va_G) (cI : ClassId) (h a0 a1 a2 a3 a4 a5 : Nat) (fi la : Nat → Int32) (B : BK) (a b : Int32) : pq_M l yX0_askGreatest wsX0_askGreatest 12 271 0 0 D [(cI, .int)] pq_0 (bkW h a0 a1 a2 a3 a4 a5 cI fi la B) [.ref h, .int a, .int b] (fun v w1 => v = some (.int (bTopFrom fi la a b 7 (bBegin B) 1).1) ∧ w1 = bkW h a0 a1 a2 a3 a4 a5 cI fi la (bTopFrom fi la a b 7 (bBegin B) 1).2) := by
  refine pq_enter (cc := cX0_askGreatest) (maxL := 3) (ret := (some .int)) (by decide) rfl (Nat.le_of_ble_eq_true rfl) ?_
  intro p ev s m args below meth cd A ls Q H locs hx hb hr hml hts hown hlocks hnm hK hP hD hS hA hE hl hQ
  have hl : lv_has ls 3 [(0, .ref h), (1, .int a), (2, .int b)] := hl
  have hP : va_P D vwCl [(h, .inr (0, [.ref a0, .ref a1, .ref a2, .ref a3, .ref a4, .ref a5, .int B.2.2.2.2.1, .int B.2.2.2.2.2.1, .int B.2.2.2.2.2.2])), (a0, .inl (cI, 128, .inl fi)), (a1, .inl (cI, 128, .inl la)), (a2, .inl (cI, 128, .inl B.1)), (a3, .inl (cI, 128, .inl B.2.1)), (a4, .inl (cI, 128, .inl B.2.2.1)), (a5, .inl (cI, 128, .inl B.2.2.2.1))] H := hP
  have hD : va_D A [(h, .inr (0, [.ref a0, .ref a1, .ref a2, .ref a3, .ref a4, .ref a5, .int B.2.2.2.2.1, .int B.2.2.2.2.2.1, .int B.2.2.2.2.2.2])), (a0, .inl (cI, 128, .inl fi)), (a1, .inl (cI, 128, .inl la)), (a2, .inl (cI, 128, .inl B.1)), (a3, .inl (cI, 128, .inl B.2.1)), (a4, .inl (cI, 128, .inl B.2.2.1)), (a5, .inl (cI, 128, .inl B.2.2.2.1))] := hD
  refine lv_aload_n hx hb dX0_askGreatest_0 rfl (lv_at hl 0 rfl) ?_
  refine pq_callV (wr := []) (own := RX0) (nL := 3) (q0 := 0) (ci := 0) [0, 1, 2, 3, 4, 5, 6] [] [] (mX0_beginCall l D cI h a0 a1 a2 a3 a4 a5 fi la B ) ⟨hx, hb, hml, hown, hts⟩ (cwV 0 hts gX0_askGreatest_X0_beginCall rfl rfl rfl (by decide +kernel) ⟨by dsimp only [pq_R]; omega, by dsimp only [pq_R]; omega⟩) pq_bl0 (fun _ _ _ => trivial) hK hP hD hS hA rfl (by decide) rfl (by decide) (by decide) rfl rfl rfl rfl hl.1 rfl (Nat.le_of_ble_eq_true rfl) dX0_askGreatest_1 ⟨by dsimp only [pq_R]; omega, by dsimp only [pq_R]; omega⟩ (fun v w1 H locs hq hP hD hS hz => ?_)
  obtain ⟨rfl, rfl⟩ := hq
  obtain ⟨B_1, hB_1⟩ : ∃ zz, zz = bBegin B := ⟨_, rfl⟩
  rw [← hB_1] at hP hD
  have hP : va_P D vwCl [(h, .inr (0, [.ref a0, .ref a1, .ref a2, .ref a3, .ref a4, .ref a5, .int B_1.2.2.2.2.1, .int B_1.2.2.2.2.2.1, .int B_1.2.2.2.2.2.2])), (a0, .inl (cI, 128, .inl fi)), (a1, .inl (cI, 128, .inl la)), (a2, .inl (cI, 128, .inl B_1.1)), (a3, .inl (cI, 128, .inl B_1.2.1)), (a4, .inl (cI, 128, .inl B_1.2.2.1)), (a5, .inl (cI, 128, .inl B_1.2.2.2.1))] H := hP
  have hD : va_D A [(h, .inr (0, [.ref a0, .ref a1, .ref a2, .ref a3, .ref a4, .ref a5, .int B_1.2.2.2.2.1, .int B_1.2.2.2.2.2.1, .int B_1.2.2.2.2.2.2])), (a0, .inl (cI, 128, .inl fi)), (a1, .inl (cI, 128, .inl la)), (a2, .inl (cI, 128, .inl B_1.1)), (a3, .inl (cI, 128, .inl B_1.2.1)), (a4, .inl (cI, 128, .inl B_1.2.2.1)), (a5, .inl (cI, 128, .inl B_1.2.2.2.1))] := hD
  refine W.eq (g2 := F0 m 4 ls []) rfl ?_
  refine lv_aload_n hx hb dX0_askGreatest_4 rfl (lv_at hl 0 rfl) ?_
  refine lv_iconst (v := 1) hx hb dX0_askGreatest_5 (by decide) ?_
  refine lv_iload_n hx hb dX0_askGreatest_6 rfl (lv_at hl 1 rfl) ?_
  refine lv_iload_n hx hb dX0_askGreatest_7 rfl (lv_at hl 2 rfl) ?_
  refine pq_callV (wr := []) (own := RX0) (nL := 3) (q0 := 0) (ci := 0) [0, 1, 2, 3, 4, 5, 6] [] [.int 1, .int a, .int b] (mX0_greatestFrom l D cI h a0 a1 a2 a3 a4 a5 fi la a b 7 B_1 1 (by decide) (by decide)) ⟨hx, hb, hml, hown, hts⟩ (cwV 3 hts gX0_askGreatest_X0_greatestFrom rfl rfl rfl (by decide +kernel) ⟨by dsimp only [pq_R]; omega, by dsimp only [pq_R]; omega⟩) pq_bl0 (fun _ _ _ => trivial) hK hP hD hS hA rfl (by decide) rfl (by decide) (by decide) rfl rfl rfl rfl hl.1 rfl (Nat.le_of_ble_eq_true rfl) dX0_askGreatest_8 ⟨by dsimp only [pq_R]; omega, by dsimp only [pq_R]; omega⟩ (fun v w1 H locs hq hP hD hS hz => ?_)
  obtain ⟨rfl, rfl⟩ := hq
  obtain ⟨B_2, hB_2⟩ : ∃ zz, zz = (bTopFrom fi la a b 7 B_1 1).2 := ⟨_, rfl⟩
  rw [← hB_2] at hP hD
  have hP : va_P D vwCl [(h, .inr (0, [.ref a0, .ref a1, .ref a2, .ref a3, .ref a4, .ref a5, .int B_2.2.2.2.2.1, .int B_2.2.2.2.2.2.1, .int B_2.2.2.2.2.2.2])), (a0, .inl (cI, 128, .inl fi)), (a1, .inl (cI, 128, .inl la)), (a2, .inl (cI, 128, .inl B_2.1)), (a3, .inl (cI, 128, .inl B_2.2.1)), (a4, .inl (cI, 128, .inl B_2.2.2.1)), (a5, .inl (cI, 128, .inl B_2.2.2.2.1))] H := hP
  have hD : va_D A [(h, .inr (0, [.ref a0, .ref a1, .ref a2, .ref a3, .ref a4, .ref a5, .int B_2.2.2.2.2.1, .int B_2.2.2.2.2.2.1, .int B_2.2.2.2.2.2.2])), (a0, .inl (cI, 128, .inl fi)), (a1, .inl (cI, 128, .inl la)), (a2, .inl (cI, 128, .inl B_2.1)), (a3, .inl (cI, 128, .inl B_2.2.1)), (a4, .inl (cI, 128, .inl B_2.2.2.1)), (a5, .inl (cI, 128, .inl B_2.2.2.2.1))] := hD
  refine W.eq (g2 := F0 m 11 ls [.int ((bTopFrom fi la a b 7 B_1 1).1)]) rfl ?_
  exact pq_iret hQ hx hb hr hlocks hK hS hP hD dX0_askGreatest_11 (by omega) (by omega) (⟨by subst hB_2; subst hB_1; rfl, by subst hB_2; subst hB_1; rfl⟩)

set_option maxHeartbeats 4000000 in
set_option maxRecDepth 100000 in
theorem mX0_leastGreatestOver (l : Launch) (D : va_G) (cI : ClassId) (h a0 a1 a2 a3 a4 a5 : Nat) (fi la : Nat → Int32) (B : BK) (x : Int32) : pq_M l yX0_leastGreatestOver wsX0_leastGreatestOver 1 30 0 0 D [(cI, .int)] pq_0 (bkW h a0 a1 a2 a3 a4 a5 cI fi la B) [.ref h, .int x] (fun v w1 => v = some (.int (bLeast fi la B.1 x 126)) ∧ w1 = bkW h a0 a1 a2 a3 a4 a5 cI fi la B) := by
  refine pq_enter (cc := cX0_leastGreatestOver) (maxL := 4) (ret := (some .int)) (by decide) rfl (Nat.le_of_ble_eq_true rfl) ?_
  intro p ev s m args below meth cd A ls Q H locs hx hb hr hml hts hown hlocks hnm hK hP hD hS hA hE hl hQ
  have hl : lv_has ls 4 [(0, .ref h), (1, .int x)] := hl
  have hP : va_P D vwCl [(h, .inr (0, [.ref a0, .ref a1, .ref a2, .ref a3, .ref a4, .ref a5, .int B.2.2.2.2.1, .int B.2.2.2.2.2.1, .int B.2.2.2.2.2.2])), (a0, .inl (cI, 128, .inl fi)), (a1, .inl (cI, 128, .inl la)), (a2, .inl (cI, 128, .inl B.1)), (a3, .inl (cI, 128, .inl B.2.1)), (a4, .inl (cI, 128, .inl B.2.2.1)), (a5, .inl (cI, 128, .inl B.2.2.2.1))] H := hP
  have hD : va_D A [(h, .inr (0, [.ref a0, .ref a1, .ref a2, .ref a3, .ref a4, .ref a5, .int B.2.2.2.2.1, .int B.2.2.2.2.2.1, .int B.2.2.2.2.2.2])), (a0, .inl (cI, 128, .inl fi)), (a1, .inl (cI, 128, .inl la)), (a2, .inl (cI, 128, .inl B.1)), (a3, .inl (cI, 128, .inl B.2.1)), (a4, .inl (cI, 128, .inl B.2.2.1)), (a5, .inl (cI, 128, .inl B.2.2.2.1))] := hD
  have hin_X0 : ∀ w ∈ wsX00, w ∈ wsX0_leastGreatestOver := by decide +kernel
  have hf_PressedPlains_Book_18 := hts (.fieldLink RX0 18 "PressedPlains$Book" "greatest" "[I") (by decide +kernel)
  have hm1_min73 := hts (.methodLink RX0 73 Lib.Math.min.name) (by decide +kernel)
  have hm2_min := hts (.static Lib.Math.min.name) (by decide +kernel)
  have hm3 := hts (.initialized "java/lang/Math") (by decide +kernel)
  have hm4_min := hts (.code Lib.Math.min.name Lib.Math.min.code 2 (some .int)) (by decide +kernel)
  refine lv_aload_n hx hb dX0_leastGreatestOver_0 rfl (lv_at hl 0 rfl) ?_
  refine va_get (D := D) (ci := 0) (v := .ref a2) (C := RX0) (T := TX0) (N := 9) hx hb hts hin_X0 hown hK hP 0 rfl rfl 2 (by decide) hf_PressedPlains_Book_18 (fun _ h9 => h9) rfl dX0_leastGreatestOver_1 ?_
  refine lv_iconst (v := 1) hx hb dX0_leastGreatestOver_4 (by decide) ?_
  refine pq_iald hx hb hK hP 3 0 rfl rfl 1 (by omega) (by decide) dX0_leastGreatestOver_5 ?_
  refine lv_istore_n (lv' := [(2, .int (B.1 1)), (0, .ref h), (1, .int x)]) hx hb dX0_leastGreatestOver_6 rfl hl (by decide) rfl (fun ls hl => ?_)
  refine lv_iconst (v := 2) hx hb dX0_leastGreatestOver_7 (by decide) ?_
  refine lv_istore_n (lv' := [(3, .int 2), (2, .int (B.1 1)), (0, .ref h), (1, .int x)]) hx hb dX0_leastGreatestOver_8 rfl hl (by decide) rfl (fun ls hl => ?_)
  have LP : ∀ (n : Nat) (kk : Nat) (r : Int32), 128 - kk < n → 2 ≤ kk → kk ≤ 128 → r = bLeast fi la B.1 x (kk - 2) → ∀ (H : Heap) (locs : List Loc) (ls : Array Slot), va_P D vwCl [(h, .inr (0, [.ref a0, .ref a1, .ref a2, .ref a3, .ref a4, .ref a5, .int B.2.2.2.2.1, .int B.2.2.2.2.2.1, .int B.2.2.2.2.2.2])), (a0, .inl (cI, 128, .inl fi)), (a1, .inl (cI, 128, .inl la)), (a2, .inl (cI, 128, .inl B.1)), (a3, .inl (cI, 128, .inl B.2.1)), (a4, .inl (cI, 128, .inl B.2.2.1)), (a5, .inl (cI, 128, .inl B.2.2.2.1))] H → va_D A [(h, .inr (0, [.ref a0, .ref a1, .ref a2, .ref a3, .ref a4, .ref a5, .int B.2.2.2.2.1, .int B.2.2.2.2.2.1, .int B.2.2.2.2.2.2])), (a0, .inl (cI, 128, .inl fi)), (a1, .inl (cI, 128, .inl la)), (a2, .inl (cI, 128, .inl B.1)), (a3, .inl (cI, 128, .inl B.2.1)), (a4, .inl (cI, 128, .inl B.2.2.1)), (a5, .inl (cI, 128, .inl B.2.2.2.1))] → va_S A s.heap H locs → lv_has ls 4 [(3, .int (nI kk)), (2, .int r), (0, .ref h), (1, .int x)] → W p l ev (pq_R 1 30 0 0) s m args below meth cd H locs 0 0 Q (F0 m 9 ls []) := by
    intro n
    induction n with
    | zero => intro kk r h1; exact absurd h1 (Nat.not_lt_zero _)
    | succ n ihLP =>
      intro kk r hmeas h2 h3 hrr H locs ls hP hD hS hl
      refine lv_iload_n hx hb dX0_leastGreatestOver_9 rfl (lv_at hl 0 rfl) ?_
      refine lv_sipush (v := 128) hx hb dX0_leastGreatestOver_10 (by decide) ?_
      rcases Nat.lt_or_ge kk 128 with k_1 | k_1
      · refine lv_icmp_ge (tgt := 51) hx hb dX0_leastGreatestOver_13 (by decide) (fun c9 => absurd c9 ((nI_ge (a := kk) (b := 128) k_1 (by omega)))) (fun _ => ?_)
        refine lv_aload_n hx hb dX0_leastGreatestOver_16 rfl (lv_at hl 2 rfl) ?_
        refine lv_iload_n hx hb dX0_leastGreatestOver_17 rfl (lv_at hl 0 rfl) ?_
        refine pq_callV (wr := []) (own := RX0) (nL := 4) (q0 := 0) (ci := 0) [0, 1, 2, 3, 4, 5, 6] [] [.int (nI kk)] (mX0_has l D cI h a0 a1 a2 a3 a4 a5 fi la B (nI kk)) ⟨hx, hb, hml, hown, hts⟩ (cwV 1 hts gX0_leastGreatestOver_X0_has rfl rfl rfl (by decide +kernel) ⟨by dsimp only [pq_R]; omega, by dsimp only [pq_R]; omega⟩) pq_bl0 (fun _ _ _ => trivial) hK hP hD hS hA rfl (by decide) rfl (by decide) (by decide) rfl rfl rfl rfl hl.1 rfl (Nat.le_of_ble_eq_true rfl) dX0_leastGreatestOver_18 ⟨by dsimp only [pq_R]; omega, by dsimp only [pq_R]; omega⟩ (fun v w1 H locs hq hP hD hS hz => ?_)
        obtain ⟨rfl, rfl⟩ := hq
        have hP : va_P D vwCl [(h, .inr (0, [.ref a0, .ref a1, .ref a2, .ref a3, .ref a4, .ref a5, .int B.2.2.2.2.1, .int B.2.2.2.2.2.1, .int B.2.2.2.2.2.2])), (a0, .inl (cI, 128, .inl fi)), (a1, .inl (cI, 128, .inl la)), (a2, .inl (cI, 128, .inl B.1)), (a3, .inl (cI, 128, .inl B.2.1)), (a4, .inl (cI, 128, .inl B.2.2.1)), (a5, .inl (cI, 128, .inl B.2.2.2.1))] H := hP
        have hD : va_D A [(h, .inr (0, [.ref a0, .ref a1, .ref a2, .ref a3, .ref a4, .ref a5, .int B.2.2.2.2.1, .int B.2.2.2.2.2.1, .int B.2.2.2.2.2.2])), (a0, .inl (cI, 128, .inl fi)), (a1, .inl (cI, 128, .inl la)), (a2, .inl (cI, 128, .inl B.1)), (a3, .inl (cI, 128, .inl B.2.1)), (a4, .inl (cI, 128, .inl B.2.2.1)), (a5, .inl (cI, 128, .inl B.2.2.2.1))] := hD
        by_cases b_2 : bHas la (nI kk)
        · rw [if_pos b_2]
          refine W.eq (g2 := F0 m 21 ls [.int 1]) rfl ?_
          refine lv_if_eq (tgt := 45) hx hb dX0_leastGreatestOver_21 (by decide) (fun c9 => absurd c9 (by decide)) (fun _ => ?_)
          refine lv_aload_n hx hb dX0_leastGreatestOver_24 rfl (lv_at hl 2 rfl) ?_
          refine lv_iload_n hx hb dX0_leastGreatestOver_25 rfl (lv_at hl 0 rfl) ?_
          refine lv_iload_n hx hb dX0_leastGreatestOver_26 rfl (lv_at hl 3 rfl) ?_
          refine lv_iload_n hx hb dX0_leastGreatestOver_27 rfl (lv_at hl 3 rfl) ?_
          refine pq_callV (wr := []) (own := RX0) (nL := 4) (q0 := 0) (ci := 0) [0, 1, 2, 3, 4, 5, 6] [] [.int (nI kk), .int x, .int x] (mX0_isApart l D cI h a0 a1 a2 a3 a4 a5 fi la B kk x x (by omega)) ⟨hx, hb, hml, hown, hts⟩ (cwV 3 hts gX0_leastGreatestOver_X0_isApart rfl rfl rfl (by decide +kernel) ⟨by dsimp only [pq_R]; omega, by dsimp only [pq_R]; omega⟩) pq_bl0 (fun _ _ _ => trivial) hK hP hD hS hA rfl (by decide) rfl (by decide) (by decide) rfl rfl rfl rfl hl.1 rfl (Nat.le_of_ble_eq_true rfl) dX0_leastGreatestOver_28 ⟨by dsimp only [pq_R]; omega, by dsimp only [pq_R]; omega⟩ (fun v w1 H locs hq hP hD hS hz => ?_)
          obtain ⟨rfl, rfl⟩ := hq
          have hP : va_P D vwCl [(h, .inr (0, [.ref a0, .ref a1, .ref a2, .ref a3, .ref a4, .ref a5, .int B.2.2.2.2.1, .int B.2.2.2.2.2.1, .int B.2.2.2.2.2.2])), (a0, .inl (cI, 128, .inl fi)), (a1, .inl (cI, 128, .inl la)), (a2, .inl (cI, 128, .inl B.1)), (a3, .inl (cI, 128, .inl B.2.1)), (a4, .inl (cI, 128, .inl B.2.2.1)), (a5, .inl (cI, 128, .inl B.2.2.2.1))] H := hP
          have hD : va_D A [(h, .inr (0, [.ref a0, .ref a1, .ref a2, .ref a3, .ref a4, .ref a5, .int B.2.2.2.2.1, .int B.2.2.2.2.2.1, .int B.2.2.2.2.2.2])), (a0, .inl (cI, 128, .inl fi)), (a1, .inl (cI, 128, .inl la)), (a2, .inl (cI, 128, .inl B.1)), (a3, .inl (cI, 128, .inl B.2.1)), (a4, .inl (cI, 128, .inl B.2.2.1)), (a5, .inl (cI, 128, .inl B.2.2.2.1))] := hD
          by_cases b_3 : bAp fi la kk x x
          · rw [if_pos b_3]
            refine W.eq (g2 := F0 m 31 ls [.int 1]) rfl ?_
            refine lv_if_ne (tgt := 45) hx hb dX0_leastGreatestOver_31 (by decide) (fun _ => ?_) (fun c9 => absurd c9 (by decide))
            refine lv_iinc (v := nI (kk + 1)) (lv' := [(3, .int (nI (kk + 1))), (2, .int r), (0, .ref h), (1, .int x)]) hx hb dX0_leastGreatestOver_45 hl (k := 0) rfl (nI_add _ 1) (by decide) rfl (fun ls hl => ?_)
            refine lv_goto (tgt := 9) hx hb dX0_leastGreatestOver_48 (by decide) ?_
            exact ihLP (kk + 1) r (by omega) (by omega) (by omega) (by rw [bLeast_s _ _ _ _ h2, if_neg (fun h => h.2 b_3), ← hrr]) H locs ls hP hD hS (lv_sub hl [0, 1, 2, 3] rfl)
          · rw [if_neg b_3]
            refine W.eq (g2 := F0 m 31 ls [.int 0]) rfl ?_
            refine lv_if_ne (tgt := 45) hx hb dX0_leastGreatestOver_31 (by decide) (fun c9 => absurd c9 (by decide)) (fun _ => ?_)
            refine lv_iload_n hx hb dX0_leastGreatestOver_34 rfl (lv_at hl 1 rfl) ?_
            refine lv_aload_n hx hb dX0_leastGreatestOver_35 rfl (lv_at hl 2 rfl) ?_
            refine va_get (D := D) (ci := 0) (v := .ref a2) (C := RX0) (T := TX0) (N := 9) hx hb hts hin_X0 hown hK hP 0 rfl rfl 2 (by decide) hf_PressedPlains_Book_18 (fun _ h9 => h9) rfl dX0_leastGreatestOver_36 ?_
            refine lv_iload_n hx hb dX0_leastGreatestOver_39 rfl (lv_at hl 0 rfl) ?_
            refine pq_iald hx hb hK hP 3 0 rfl rfl kk (by omega) (by decide) dX0_leastGreatestOver_40 ?_
            refine va_mmin hx hb (hml.trans hl.1.symm) hown hm1_min73 hm2_min hm3 hm4_min (by first | exact Nat.le_of_ble_eq_true rfl | (dsimp only [pq_R]; omega)) (by first | exact Nat.le_of_ble_eq_true rfl | (simp only [List.map_nil, List.map_cons, List.sum_nil, List.sum_cons, pq_R, Value.category]; omega)) (Nat.le_of_ble_eq_true rfl) (Nat.le_of_ble_eq_true rfl) dX0_leastGreatestOver_41 ?_
            refine pq_top (bMin r (B.1 kk)) rfl ?_
            refine lv_istore_n (lv' := [(2, .int (bMin r (B.1 kk))), (3, .int (nI kk)), (0, .ref h), (1, .int x)]) hx hb dX0_leastGreatestOver_44 rfl hl (by decide) rfl (fun ls hl => ?_)
            refine lv_iinc (v := nI (kk + 1)) (lv' := [(3, .int (nI (kk + 1))), (2, .int (bMin r (B.1 kk))), (0, .ref h), (1, .int x)]) hx hb dX0_leastGreatestOver_45 hl (k := 1) rfl (nI_add _ 1) (by decide) rfl (fun ls hl => ?_)
            refine lv_goto (tgt := 9) hx hb dX0_leastGreatestOver_48 (by decide) ?_
            exact ihLP (kk + 1) (bMin r (B.1 kk)) (by omega) (by omega) (by omega) (by rw [bLeast_s _ _ _ _ h2, if_pos ⟨b_2, b_3⟩, ← hrr]) H locs ls hP hD hS (lv_sub hl [0, 1, 2, 3] rfl)
        · rw [if_neg b_2]
          refine W.eq (g2 := F0 m 21 ls [.int 0]) rfl ?_
          refine lv_if_eq (tgt := 45) hx hb dX0_leastGreatestOver_21 (by decide) (fun _ => ?_) (fun c9 => absurd c9 (by decide))
          refine lv_iinc (v := nI (kk + 1)) (lv' := [(3, .int (nI (kk + 1))), (2, .int r), (0, .ref h), (1, .int x)]) hx hb dX0_leastGreatestOver_45 hl (k := 0) rfl (nI_add _ 1) (by decide) rfl (fun ls hl => ?_)
          refine lv_goto (tgt := 9) hx hb dX0_leastGreatestOver_48 (by decide) ?_
          exact ihLP (kk + 1) r (by omega) (by omega) (by omega) (by rw [bLeast_s _ _ _ _ h2, if_neg (fun h => b_2 h.1), ← hrr]) H locs ls hP hD hS (lv_sub hl [0, 1, 2, 3] rfl)
      · refine lv_icmp_ge (tgt := 51) hx hb dX0_leastGreatestOver_13 (by decide) (fun _ => ?_) (fun c9 => absurd ((nI_le (a := 128) (b := kk) k_1 (by omega))) c9)
        refine lv_iload_n hx hb dX0_leastGreatestOver_51 rfl (lv_at hl 1 rfl) ?_
        exact pq_iret hQ hx hb hr hlocks hK hS hP hD dX0_leastGreatestOver_52 (by omega) (by omega) (⟨by rw [hrr, show kk - 2 = 126 by omega], rfl⟩)
  exact LP _ 2 (B.1 1) (Nat.lt_succ_self _) (by decide) (by decide) rfl H locs ls hP hD hS (lv_sub hl [0, 1, 2, 3] rfl)

set_option maxHeartbeats 4000000 in
set_option maxRecDepth 100000 in
theorem mX0_countLagging (l : Launch) (D : va_G) (cI : ClassId) (h a0 a1 a2 a3 a4 a5 : Nat) (fi la : Nat → Int32) (B : BK) : pq_M l yX0_countLagging wsX0_countLagging 1 21 0 0 D [(cI, .int)] pq_0 (bkW h a0 a1 a2 a3 a4 a5 cI fi la B) [.ref h] (fun v w1 => v = some (.int (bLags la B 126)) ∧ w1 = bkW h a0 a1 a2 a3 a4 a5 cI fi la B) := by
  refine pq_enter (cc := cX0_countLagging) (maxL := 3) (ret := (some .int)) (by decide) rfl (Nat.le_of_ble_eq_true rfl) ?_
  intro p ev s m args below meth cd A ls Q H locs hx hb hr hml hts hown hlocks hnm hK hP hD hS hA hE hl hQ
  have hl : lv_has ls 3 [(0, .ref h)] := hl
  have hP : va_P D vwCl [(h, .inr (0, [.ref a0, .ref a1, .ref a2, .ref a3, .ref a4, .ref a5, .int B.2.2.2.2.1, .int B.2.2.2.2.2.1, .int B.2.2.2.2.2.2])), (a0, .inl (cI, 128, .inl fi)), (a1, .inl (cI, 128, .inl la)), (a2, .inl (cI, 128, .inl B.1)), (a3, .inl (cI, 128, .inl B.2.1)), (a4, .inl (cI, 128, .inl B.2.2.1)), (a5, .inl (cI, 128, .inl B.2.2.2.1))] H := hP
  have hD : va_D A [(h, .inr (0, [.ref a0, .ref a1, .ref a2, .ref a3, .ref a4, .ref a5, .int B.2.2.2.2.1, .int B.2.2.2.2.2.1, .int B.2.2.2.2.2.2])), (a0, .inl (cI, 128, .inl fi)), (a1, .inl (cI, 128, .inl la)), (a2, .inl (cI, 128, .inl B.1)), (a3, .inl (cI, 128, .inl B.2.1)), (a4, .inl (cI, 128, .inl B.2.2.1)), (a5, .inl (cI, 128, .inl B.2.2.2.1))] := hD
  refine lv_iconst (v := 0) hx hb dX0_countLagging_0 (by decide) ?_
  refine lv_istore_n (lv' := [(1, .int 0), (0, .ref h)]) hx hb dX0_countLagging_1 rfl hl (by decide) rfl (fun ls hl => ?_)
  refine lv_iconst (v := 2) hx hb dX0_countLagging_2 (by decide) ?_
  refine lv_istore_n (lv' := [(2, .int 2), (1, .int 0), (0, .ref h)]) hx hb dX0_countLagging_3 rfl hl (by decide) rfl (fun ls hl => ?_)
  have LP : ∀ (n : Nat) (kk : Nat) (r : Int32), 128 - kk < n → 2 ≤ kk → kk ≤ 128 → r = bLags la B (kk - 2) → ∀ (H : Heap) (locs : List Loc) (ls : Array Slot), va_P D vwCl [(h, .inr (0, [.ref a0, .ref a1, .ref a2, .ref a3, .ref a4, .ref a5, .int B.2.2.2.2.1, .int B.2.2.2.2.2.1, .int B.2.2.2.2.2.2])), (a0, .inl (cI, 128, .inl fi)), (a1, .inl (cI, 128, .inl la)), (a2, .inl (cI, 128, .inl B.1)), (a3, .inl (cI, 128, .inl B.2.1)), (a4, .inl (cI, 128, .inl B.2.2.1)), (a5, .inl (cI, 128, .inl B.2.2.2.1))] H → va_D A [(h, .inr (0, [.ref a0, .ref a1, .ref a2, .ref a3, .ref a4, .ref a5, .int B.2.2.2.2.1, .int B.2.2.2.2.2.1, .int B.2.2.2.2.2.2])), (a0, .inl (cI, 128, .inl fi)), (a1, .inl (cI, 128, .inl la)), (a2, .inl (cI, 128, .inl B.1)), (a3, .inl (cI, 128, .inl B.2.1)), (a4, .inl (cI, 128, .inl B.2.2.1)), (a5, .inl (cI, 128, .inl B.2.2.2.1))] → va_S A s.heap H locs → lv_has ls 3 [(2, .int (nI kk)), (1, .int r), (0, .ref h)] → W p l ev (pq_R 1 21 0 0) s m args below meth cd H locs 0 0 Q (F0 m 4 ls []) := by
    intro n
    induction n with
    | zero => intro kk r h1; exact absurd h1 (Nat.not_lt_zero _)
    | succ n ihLP =>
      intro kk r hmeas h2 h3 hrr H locs ls hP hD hS hl
      refine lv_iload_n hx hb dX0_countLagging_4 rfl (lv_at hl 0 rfl) ?_
      refine lv_sipush (v := 128) hx hb dX0_countLagging_5 (by decide) ?_
      rcases Nat.lt_or_ge kk 128 with k_1 | k_1
      · refine lv_icmp_ge (tgt := 36) hx hb dX0_countLagging_8 (by decide) (fun c9 => absurd c9 ((nI_ge (a := kk) (b := 128) k_1 (by omega)))) (fun _ => ?_)
        refine lv_aload_n hx hb dX0_countLagging_11 rfl (lv_at hl 2 rfl) ?_
        refine lv_iload_n hx hb dX0_countLagging_12 rfl (lv_at hl 0 rfl) ?_
        refine pq_callV (wr := []) (own := RX0) (nL := 3) (q0 := 0) (ci := 0) [0, 1, 2, 3, 4, 5, 6] [] [.int (nI kk)] (mX0_has l D cI h a0 a1 a2 a3 a4 a5 fi la B (nI kk)) ⟨hx, hb, hml, hown, hts⟩ (cwV 1 hts gX0_countLagging_X0_has rfl rfl rfl (by decide +kernel) ⟨by dsimp only [pq_R]; omega, by dsimp only [pq_R]; omega⟩) pq_bl0 (fun _ _ _ => trivial) hK hP hD hS hA rfl (by decide) rfl (by decide) (by decide) rfl rfl rfl rfl hl.1 rfl (Nat.le_of_ble_eq_true rfl) dX0_countLagging_13 ⟨by dsimp only [pq_R]; omega, by dsimp only [pq_R]; omega⟩ (fun v w1 H locs hq hP hD hS hz => ?_)
        obtain ⟨rfl, rfl⟩ := hq
        have hP : va_P D vwCl [(h, .inr (0, [.ref a0, .ref a1, .ref a2, .ref a3, .ref a4, .ref a5, .int B.2.2.2.2.1, .int B.2.2.2.2.2.1, .int B.2.2.2.2.2.2])), (a0, .inl (cI, 128, .inl fi)), (a1, .inl (cI, 128, .inl la)), (a2, .inl (cI, 128, .inl B.1)), (a3, .inl (cI, 128, .inl B.2.1)), (a4, .inl (cI, 128, .inl B.2.2.1)), (a5, .inl (cI, 128, .inl B.2.2.2.1))] H := hP
        have hD : va_D A [(h, .inr (0, [.ref a0, .ref a1, .ref a2, .ref a3, .ref a4, .ref a5, .int B.2.2.2.2.1, .int B.2.2.2.2.2.1, .int B.2.2.2.2.2.2])), (a0, .inl (cI, 128, .inl fi)), (a1, .inl (cI, 128, .inl la)), (a2, .inl (cI, 128, .inl B.1)), (a3, .inl (cI, 128, .inl B.2.1)), (a4, .inl (cI, 128, .inl B.2.2.1)), (a5, .inl (cI, 128, .inl B.2.2.2.1))] := hD
        by_cases b_2 : bHas la (nI kk)
        · rw [if_pos b_2]
          refine W.eq (g2 := F0 m 16 ls [.int 1]) rfl ?_
          refine lv_if_eq (tgt := 30) hx hb dX0_countLagging_16 (by decide) (fun c9 => absurd c9 (by decide)) (fun _ => ?_)
          refine lv_aload_n hx hb dX0_countLagging_19 rfl (lv_at hl 2 rfl) ?_
          refine lv_iload_n hx hb dX0_countLagging_20 rfl (lv_at hl 0 rfl) ?_
          refine pq_callV (wr := []) (own := RX0) (nL := 3) (q0 := 0) (ci := 0) [0, 1, 2, 3, 4, 5, 6] [] [.int (nI kk)] (mX0_lags l D cI h a0 a1 a2 a3 a4 a5 fi la B kk (by omega)) ⟨hx, hb, hml, hown, hts⟩ (cwV 1 hts gX0_countLagging_X0_lags rfl rfl rfl (by decide +kernel) ⟨by dsimp only [pq_R]; omega, by dsimp only [pq_R]; omega⟩) pq_bl0 (fun _ _ _ => trivial) hK hP hD hS hA rfl (by decide) rfl (by decide) (by decide) rfl rfl rfl rfl hl.1 rfl (Nat.le_of_ble_eq_true rfl) dX0_countLagging_21 ⟨by dsimp only [pq_R]; omega, by dsimp only [pq_R]; omega⟩ (fun v w1 H locs hq hP hD hS hz => ?_)
          obtain ⟨rfl, rfl⟩ := hq
          have hP : va_P D vwCl [(h, .inr (0, [.ref a0, .ref a1, .ref a2, .ref a3, .ref a4, .ref a5, .int B.2.2.2.2.1, .int B.2.2.2.2.2.1, .int B.2.2.2.2.2.2])), (a0, .inl (cI, 128, .inl fi)), (a1, .inl (cI, 128, .inl la)), (a2, .inl (cI, 128, .inl B.1)), (a3, .inl (cI, 128, .inl B.2.1)), (a4, .inl (cI, 128, .inl B.2.2.1)), (a5, .inl (cI, 128, .inl B.2.2.2.1))] H := hP
          have hD : va_D A [(h, .inr (0, [.ref a0, .ref a1, .ref a2, .ref a3, .ref a4, .ref a5, .int B.2.2.2.2.1, .int B.2.2.2.2.2.1, .int B.2.2.2.2.2.2])), (a0, .inl (cI, 128, .inl fi)), (a1, .inl (cI, 128, .inl la)), (a2, .inl (cI, 128, .inl B.1)), (a3, .inl (cI, 128, .inl B.2.1)), (a4, .inl (cI, 128, .inl B.2.2.1)), (a5, .inl (cI, 128, .inl B.2.2.2.1))] := hD
          by_cases b_3 : bLag B kk
          · rw [if_pos b_3]
            refine W.eq (g2 := F0 m 24 ls [.int 1]) rfl ?_
            refine lv_if_eq (tgt := 30) hx hb dX0_countLagging_24 (by decide) (fun c9 => absurd c9 (by decide)) (fun _ => ?_)
            refine lv_iinc (v := r + 1) (lv' := [(1, .int (r + 1)), (2, .int (nI kk)), (0, .ref h)]) hx hb dX0_countLagging_27 hl (k := 1) rfl (rfl) (by decide) rfl (fun ls hl => ?_)
            refine lv_iinc (v := nI (kk + 1)) (lv' := [(2, .int (nI (kk + 1))), (1, .int (r + 1)), (0, .ref h)]) hx hb dX0_countLagging_30 hl (k := 1) rfl (nI_add _ 1) (by decide) rfl (fun ls hl => ?_)
            refine lv_goto (tgt := 4) hx hb dX0_countLagging_33 (by decide) ?_
            exact ihLP (kk + 1) (r + 1) (by omega) (by omega) (by omega) (by rw [bLags_s _ _ h2, if_pos ⟨b_2, b_3⟩, ← hrr]) H locs ls hP hD hS (lv_sub hl [0, 1, 2] rfl)
          · rw [if_neg b_3]
            refine W.eq (g2 := F0 m 24 ls [.int 0]) rfl ?_
            refine lv_if_eq (tgt := 30) hx hb dX0_countLagging_24 (by decide) (fun _ => ?_) (fun c9 => absurd c9 (by decide))
            refine lv_iinc (v := nI (kk + 1)) (lv' := [(2, .int (nI (kk + 1))), (1, .int r), (0, .ref h)]) hx hb dX0_countLagging_30 hl (k := 0) rfl (nI_add _ 1) (by decide) rfl (fun ls hl => ?_)
            refine lv_goto (tgt := 4) hx hb dX0_countLagging_33 (by decide) ?_
            exact ihLP (kk + 1) r (by omega) (by omega) (by omega) (by rw [bLags_s _ _ h2, if_neg (fun h => b_3 h.2), ← hrr]) H locs ls hP hD hS (lv_sub hl [0, 1, 2] rfl)
        · rw [if_neg b_2]
          refine W.eq (g2 := F0 m 16 ls [.int 0]) rfl ?_
          refine lv_if_eq (tgt := 30) hx hb dX0_countLagging_16 (by decide) (fun _ => ?_) (fun c9 => absurd c9 (by decide))
          refine lv_iinc (v := nI (kk + 1)) (lv' := [(2, .int (nI (kk + 1))), (1, .int r), (0, .ref h)]) hx hb dX0_countLagging_30 hl (k := 0) rfl (nI_add _ 1) (by decide) rfl (fun ls hl => ?_)
          refine lv_goto (tgt := 4) hx hb dX0_countLagging_33 (by decide) ?_
          exact ihLP (kk + 1) r (by omega) (by omega) (by omega) (by rw [bLags_s _ _ h2, if_neg (fun h => b_2 h.1), ← hrr]) H locs ls hP hD hS (lv_sub hl [0, 1, 2] rfl)
      · refine lv_icmp_ge (tgt := 36) hx hb dX0_countLagging_8 (by decide) (fun _ => ?_) (fun c9 => absurd ((nI_le (a := 128) (b := kk) k_1 (by omega))) c9)
        refine lv_iload_n hx hb dX0_countLagging_36 rfl (lv_at hl 1 rfl) ?_
        exact pq_iret hQ hx hb hr hlocks hK hS hP hD dX0_countLagging_37 (by omega) (by omega) (⟨by rw [hrr, show kk - 2 = 126 by omega], rfl⟩)
  exact LP _ 2 0 (Nat.lt_succ_self _) (by decide) (by decide) rfl H locs ls hP hD hS (lv_sub hl [0, 1, 2] rfl)

set_option maxHeartbeats 4000000 in
set_option maxRecDepth 100000 in
theorem mX0_setSpan (l : Launch) (D : va_G) (cI : ClassId) (h a0 a1 a2 a3 a4 a5 : Nat) (fi la : Nat → Int32) (B : BK) (e : Nat) (f0 t0 : Int32) (he : e < 128) : pq_M l yX0_setSpan wsX0_setSpan 0 0 0 0 D [(cI, .int)] pq_0 (bkW h a0 a1 a2 a3 a4 a5 cI fi la B) [.ref h, .int (nI e), .int f0, .int t0] (fun v w1 => v = none ∧ w1 = bkW h a0 a1 a2 a3 a4 a5 cI (upd fi e f0) (upd la e t0) B) := by
  refine pq_enter (cc := cX0_setSpan) (maxL := 4) (ret := none) (by decide) rfl (Nat.le_of_ble_eq_true rfl) ?_
  intro p ev s m args below meth cd A ls Q H locs hx hb hr hml hts hown hlocks hnm hK hP hD hS hA hE hl hQ
  have hl : lv_has ls 4 [(0, .ref h), (1, .int (nI e)), (2, .int f0), (3, .int t0)] := hl
  have hP : va_P D vwCl [(h, .inr (0, [.ref a0, .ref a1, .ref a2, .ref a3, .ref a4, .ref a5, .int B.2.2.2.2.1, .int B.2.2.2.2.2.1, .int B.2.2.2.2.2.2])), (a0, .inl (cI, 128, .inl fi)), (a1, .inl (cI, 128, .inl la)), (a2, .inl (cI, 128, .inl B.1)), (a3, .inl (cI, 128, .inl B.2.1)), (a4, .inl (cI, 128, .inl B.2.2.1)), (a5, .inl (cI, 128, .inl B.2.2.2.1))] H := hP
  have hD : va_D A [(h, .inr (0, [.ref a0, .ref a1, .ref a2, .ref a3, .ref a4, .ref a5, .int B.2.2.2.2.1, .int B.2.2.2.2.2.1, .int B.2.2.2.2.2.2])), (a0, .inl (cI, 128, .inl fi)), (a1, .inl (cI, 128, .inl la)), (a2, .inl (cI, 128, .inl B.1)), (a3, .inl (cI, 128, .inl B.2.1)), (a4, .inl (cI, 128, .inl B.2.2.1)), (a5, .inl (cI, 128, .inl B.2.2.2.1))] := hD
  have hin_X0 : ∀ w ∈ wsX00, w ∈ wsX0_setSpan := by decide +kernel
  have hf_PressedPlains_Book_11 := hts (.fieldLink RX0 11 "PressedPlains$Book" "first" "[I") (by decide +kernel)
  have hf_PressedPlains_Book_15 := hts (.fieldLink RX0 15 "PressedPlains$Book" "last" "[I") (by decide +kernel)
  refine lv_aload_n hx hb dX0_setSpan_0 rfl (lv_at hl 0 rfl) ?_
  refine va_get (D := D) (ci := 0) (v := .ref a0) (C := RX0) (T := TX0) (N := 9) hx hb hts hin_X0 hown hK hP 0 rfl rfl 0 (by decide) hf_PressedPlains_Book_11 (fun _ h9 => h9) rfl dX0_setSpan_1 ?_
  refine lv_iload_n hx hb dX0_setSpan_4 rfl (lv_at hl 1 rfl) ?_
  refine lv_iload_n hx hb dX0_setSpan_5 rfl (lv_at hl 2 rfl) ?_
  refine pq_iast hx hb hK hP hD hS 1 0 rfl rfl e (by omega) (by decide) dX0_setSpan_6 (fun H locs hP hD hS => ?_)
  have hP : va_P D vwCl [(h, .inr (0, [.ref a0, .ref a1, .ref a2, .ref a3, .ref a4, .ref a5, .int B.2.2.2.2.1, .int B.2.2.2.2.2.1, .int B.2.2.2.2.2.2])), (a0, .inl (cI, 128, .inl (upd fi e f0))), (a1, .inl (cI, 128, .inl la)), (a2, .inl (cI, 128, .inl B.1)), (a3, .inl (cI, 128, .inl B.2.1)), (a4, .inl (cI, 128, .inl B.2.2.1)), (a5, .inl (cI, 128, .inl B.2.2.2.1))] H := hP
  have hD : va_D A [(h, .inr (0, [.ref a0, .ref a1, .ref a2, .ref a3, .ref a4, .ref a5, .int B.2.2.2.2.1, .int B.2.2.2.2.2.1, .int B.2.2.2.2.2.2])), (a0, .inl (cI, 128, .inl (upd fi e f0))), (a1, .inl (cI, 128, .inl la)), (a2, .inl (cI, 128, .inl B.1)), (a3, .inl (cI, 128, .inl B.2.1)), (a4, .inl (cI, 128, .inl B.2.2.1)), (a5, .inl (cI, 128, .inl B.2.2.2.1))] := hD
  refine lv_aload_n hx hb dX0_setSpan_7 rfl (lv_at hl 0 rfl) ?_
  refine va_get (D := D) (ci := 0) (v := .ref a1) (C := RX0) (T := TX0) (N := 9) hx hb hts hin_X0 hown hK hP 0 rfl rfl 1 (by decide) hf_PressedPlains_Book_15 (fun _ h9 => h9) rfl dX0_setSpan_8 ?_
  refine lv_iload_n hx hb dX0_setSpan_11 rfl (lv_at hl 1 rfl) ?_
  refine lv_iload_n hx hb dX0_setSpan_12 rfl (lv_at hl 3 rfl) ?_
  refine pq_iast hx hb hK hP hD hS 2 0 rfl rfl e (by omega) (by decide) dX0_setSpan_13 (fun H locs hP hD hS => ?_)
  have hP : va_P D vwCl [(h, .inr (0, [.ref a0, .ref a1, .ref a2, .ref a3, .ref a4, .ref a5, .int B.2.2.2.2.1, .int B.2.2.2.2.2.1, .int B.2.2.2.2.2.2])), (a0, .inl (cI, 128, .inl (upd fi e f0))), (a1, .inl (cI, 128, .inl (upd la e t0))), (a2, .inl (cI, 128, .inl B.1)), (a3, .inl (cI, 128, .inl B.2.1)), (a4, .inl (cI, 128, .inl B.2.2.1)), (a5, .inl (cI, 128, .inl B.2.2.2.1))] H := hP
  have hD : va_D A [(h, .inr (0, [.ref a0, .ref a1, .ref a2, .ref a3, .ref a4, .ref a5, .int B.2.2.2.2.1, .int B.2.2.2.2.2.1, .int B.2.2.2.2.2.2])), (a0, .inl (cI, 128, .inl (upd fi e f0))), (a1, .inl (cI, 128, .inl (upd la e t0))), (a2, .inl (cI, 128, .inl B.1)), (a3, .inl (cI, 128, .inl B.2.1)), (a4, .inl (cI, 128, .inl B.2.2.1)), (a5, .inl (cI, 128, .inl B.2.2.2.1))] := hD
  exact pq_vret hQ hx hb hr hlocks hK hS hP hD dX0_setSpan_14 (by omega) (by omega) (⟨rfl, rfl⟩)

set_option maxHeartbeats 4000000 in
set_option maxRecDepth 100000 in
theorem mX0_splitSpan (l : Launch) (D : va_G) (cI : ClassId) (h a0 a1 a2 a3 a4 a5 : Nat) (fi la : Nat → Int32) (B : BK) (e : Nat) (he : e < 64) : pq_M l yX0_splitSpan wsX0_splitSpan 1 23 0 0 D [(cI, .int)] pq_0 (bkW h a0 a1 a2 a3 a4 a5 cI fi la B) [.ref h, .int (nI e)] (fun v w1 => v = none ∧ w1 = bkW h a0 a1 a2 a3 a4 a5 cI ((sSplit fi la e).1) ((sSplit fi la e).2) B) := by
  refine pq_enter (cc := cX0_splitSpan) (maxL := 3) (ret := none) (by decide) rfl (Nat.le_of_ble_eq_true rfl) ?_
  intro p ev s m args below meth cd A ls Q H locs hx hb hr hml hts hown hlocks hnm hK hP hD hS hA hE hl hQ
  have hl : lv_has ls 3 [(0, .ref h), (1, .int (nI e))] := hl
  have hP : va_P D vwCl [(h, .inr (0, [.ref a0, .ref a1, .ref a2, .ref a3, .ref a4, .ref a5, .int B.2.2.2.2.1, .int B.2.2.2.2.2.1, .int B.2.2.2.2.2.2])), (a0, .inl (cI, 128, .inl fi)), (a1, .inl (cI, 128, .inl la)), (a2, .inl (cI, 128, .inl B.1)), (a3, .inl (cI, 128, .inl B.2.1)), (a4, .inl (cI, 128, .inl B.2.2.1)), (a5, .inl (cI, 128, .inl B.2.2.2.1))] H := hP
  have hD : va_D A [(h, .inr (0, [.ref a0, .ref a1, .ref a2, .ref a3, .ref a4, .ref a5, .int B.2.2.2.2.1, .int B.2.2.2.2.2.1, .int B.2.2.2.2.2.2])), (a0, .inl (cI, 128, .inl fi)), (a1, .inl (cI, 128, .inl la)), (a2, .inl (cI, 128, .inl B.1)), (a3, .inl (cI, 128, .inl B.2.1)), (a4, .inl (cI, 128, .inl B.2.2.1)), (a5, .inl (cI, 128, .inl B.2.2.2.1))] := hD
  have hin_X0 : ∀ w ∈ wsX00, w ∈ wsX0_splitSpan := by decide +kernel
  have hf_PressedPlains_Book_11 := hts (.fieldLink RX0 11 "PressedPlains$Book" "first" "[I") (by decide +kernel)
  have hf_PressedPlains_Book_15 := hts (.fieldLink RX0 15 "PressedPlains$Book" "last" "[I") (by decide +kernel)
  refine lv_aload_n hx hb dX0_splitSpan_0 rfl (lv_at hl 0 rfl) ?_
  refine lv_iload_n hx hb dX0_splitSpan_1 rfl (lv_at hl 1 rfl) ?_
  refine pq_callV (wr := []) (own := RX0) (nL := 3) (q0 := 0) (ci := 0) [0, 1, 2, 3, 4, 5, 6] [] [.int (nI e)] (mX0_hasParts l D cI h a0 a1 a2 a3 a4 a5 fi la B e (by omega)) ⟨hx, hb, hml, hown, hts⟩ (cwV 1 hts gX0_splitSpan_X0_hasParts rfl rfl rfl (by decide +kernel) ⟨by dsimp only [pq_R]; omega, by dsimp only [pq_R]; omega⟩) pq_bl0 (fun _ _ _ => trivial) hK hP hD hS hA rfl (by decide) rfl (by decide) (by decide) rfl rfl rfl rfl hl.1 rfl (Nat.le_of_ble_eq_true rfl) dX0_splitSpan_2 ⟨by dsimp only [pq_R]; omega, by dsimp only [pq_R]; omega⟩ (fun v w1 H locs hq hP hD hS hz => ?_)
  obtain ⟨rfl, rfl⟩ := hq
  have hP : va_P D vwCl [(h, .inr (0, [.ref a0, .ref a1, .ref a2, .ref a3, .ref a4, .ref a5, .int B.2.2.2.2.1, .int B.2.2.2.2.2.1, .int B.2.2.2.2.2.2])), (a0, .inl (cI, 128, .inl fi)), (a1, .inl (cI, 128, .inl la)), (a2, .inl (cI, 128, .inl B.1)), (a3, .inl (cI, 128, .inl B.2.1)), (a4, .inl (cI, 128, .inl B.2.2.1)), (a5, .inl (cI, 128, .inl B.2.2.2.1))] H := hP
  have hD : va_D A [(h, .inr (0, [.ref a0, .ref a1, .ref a2, .ref a3, .ref a4, .ref a5, .int B.2.2.2.2.1, .int B.2.2.2.2.2.1, .int B.2.2.2.2.2.2])), (a0, .inl (cI, 128, .inl fi)), (a1, .inl (cI, 128, .inl la)), (a2, .inl (cI, 128, .inl B.1)), (a3, .inl (cI, 128, .inl B.2.1)), (a4, .inl (cI, 128, .inl B.2.2.1)), (a5, .inl (cI, 128, .inl B.2.2.2.1))] := hD
  by_cases b_1 : bHp fi la e
  · have he64 : e < 64 := bHp_lt (by omega) b_1
    rw [if_pos b_1]
    refine W.eq (g2 := F0 m 5 ls [.int 1]) rfl ?_
    refine lv_if_eq (tgt := 59) hx hb dX0_splitSpan_5 (by decide) (fun c9 => absurd c9 (by decide)) (fun _ => ?_)
    refine lv_aload_n hx hb dX0_splitSpan_8 rfl (lv_at hl 0 rfl) ?_
    refine va_get (D := D) (ci := 0) (v := .ref a0) (C := RX0) (T := TX0) (N := 9) hx hb hts hin_X0 hown hK hP 0 rfl rfl 0 (by decide) hf_PressedPlains_Book_11 (fun _ h9 => h9) rfl dX0_splitSpan_9 ?_
    refine lv_iload_n hx hb dX0_splitSpan_12 rfl (lv_at hl 1 rfl) ?_
    refine pq_iald hx hb hK hP 1 0 rfl rfl e (by omega) (by decide) dX0_splitSpan_13 ?_
    refine lv_aload_n hx hb dX0_splitSpan_14 rfl (lv_at hl 0 rfl) ?_
    refine va_get (D := D) (ci := 0) (v := .ref a1) (C := RX0) (T := TX0) (N := 9) hx hb hts hin_X0 hown hK hP 0 rfl rfl 1 (by decide) hf_PressedPlains_Book_15 (fun _ h9 => h9) rfl dX0_splitSpan_15 ?_
    refine lv_iload_n hx hb dX0_splitSpan_18 rfl (lv_at hl 1 rfl) ?_
    refine pq_iald hx hb hK hP 2 0 rfl rfl e (by omega) (by decide) dX0_splitSpan_19 ?_
    refine lv_iadd hx hb dX0_splitSpan_20 ?_
    refine lv_iconst (v := 2) hx hb dX0_splitSpan_21 (by decide) ?_
    refine lv_idiv hx hb dX0_splitSpan_22 (by decide) ?_
    refine lv_istore_n (lv' := [(2, .int (((fi e) + (la e)) / 2)), (0, .ref h), (1, .int (nI e))]) hx hb dX0_splitSpan_23 rfl hl (by decide) rfl (fun ls hl => ?_)
    refine lv_aload_n hx hb dX0_splitSpan_24 rfl (lv_at hl 1 rfl) ?_
    refine lv_iconst (v := 2) hx hb dX0_splitSpan_25 (by decide) ?_
    refine lv_iload_n hx hb dX0_splitSpan_26 rfl (lv_at hl 2 rfl) ?_
    refine lv_imul hx hb dX0_splitSpan_27 ?_
    refine pq_top (nI (2 * e)) (pk_mul 2 _) ?_
    refine lv_aload_n hx hb dX0_splitSpan_28 rfl (lv_at hl 1 rfl) ?_
    refine va_get (D := D) (ci := 0) (v := .ref a0) (C := RX0) (T := TX0) (N := 9) hx hb hts hin_X0 hown hK hP 0 rfl rfl 0 (by decide) hf_PressedPlains_Book_11 (fun _ h9 => h9) rfl dX0_splitSpan_29 ?_
    refine lv_iload_n hx hb dX0_splitSpan_32 rfl (lv_at hl 2 rfl) ?_
    refine pq_iald hx hb hK hP 1 0 rfl rfl e (by omega) (by decide) dX0_splitSpan_33 ?_
    refine lv_iload_n hx hb dX0_splitSpan_34 rfl (lv_at hl 0 rfl) ?_
    refine pq_callV (wr := []) (own := RX0) (nL := 3) (q0 := 0) (ci := 0) [0, 1, 2, 3, 4, 5, 6] [] [.int (nI (2 * e)), .int (fi e), .int (((fi e) + (la e)) / 2)] (mX0_setSpan l D cI h a0 a1 a2 a3 a4 a5 fi la B (2 * e) (fi e) (((fi e) + (la e)) / 2) (by omega)) ⟨hx, hb, hml, hown, hts⟩ (cwV 3 hts gX0_splitSpan_X0_setSpan rfl rfl rfl (by decide +kernel) ⟨by dsimp only [pq_R]; omega, by dsimp only [pq_R]; omega⟩) pq_bl0 (fun _ _ _ => trivial) hK hP hD hS hA rfl (by decide) rfl (by decide) (by decide) rfl rfl rfl rfl hl.1 rfl (Nat.le_of_ble_eq_true rfl) dX0_splitSpan_35 ⟨by dsimp only [pq_R]; omega, by dsimp only [pq_R]; omega⟩ (fun v w1 H locs hq hP hD hS hz => ?_)
    obtain ⟨rfl, rfl⟩ := hq
    have hP : va_P D vwCl [(h, .inr (0, [.ref a0, .ref a1, .ref a2, .ref a3, .ref a4, .ref a5, .int B.2.2.2.2.1, .int B.2.2.2.2.2.1, .int B.2.2.2.2.2.2])), (a0, .inl (cI, 128, .inl (upd fi (2 * e) (fi e)))), (a1, .inl (cI, 128, .inl (upd la (2 * e) (((fi e) + (la e)) / 2)))), (a2, .inl (cI, 128, .inl B.1)), (a3, .inl (cI, 128, .inl B.2.1)), (a4, .inl (cI, 128, .inl B.2.2.1)), (a5, .inl (cI, 128, .inl B.2.2.2.1))] H := hP
    have hD : va_D A [(h, .inr (0, [.ref a0, .ref a1, .ref a2, .ref a3, .ref a4, .ref a5, .int B.2.2.2.2.1, .int B.2.2.2.2.2.1, .int B.2.2.2.2.2.2])), (a0, .inl (cI, 128, .inl (upd fi (2 * e) (fi e)))), (a1, .inl (cI, 128, .inl (upd la (2 * e) (((fi e) + (la e)) / 2)))), (a2, .inl (cI, 128, .inl B.1)), (a3, .inl (cI, 128, .inl B.2.1)), (a4, .inl (cI, 128, .inl B.2.2.1)), (a5, .inl (cI, 128, .inl B.2.2.2.1))] := hD
    refine W.eq (g2 := F0 m 38 ls []) rfl ?_
    refine lv_aload_n hx hb dX0_splitSpan_38 rfl (lv_at hl 1 rfl) ?_
    refine lv_iconst (v := 2) hx hb dX0_splitSpan_39 (by decide) ?_
    refine lv_iload_n hx hb dX0_splitSpan_40 rfl (lv_at hl 2 rfl) ?_
    refine lv_imul hx hb dX0_splitSpan_41 ?_
    refine pq_top (nI (2 * e)) (pk_mul 2 _) ?_
    refine lv_iconst (v := 1) hx hb dX0_splitSpan_42 (by decide) ?_
    refine lv_iadd hx hb dX0_splitSpan_43 ?_
    refine pq_top (nI ((2 * e) + 1)) (nI_1 _) ?_
    refine lv_iload_n hx hb dX0_splitSpan_44 rfl (lv_at hl 0 rfl) ?_
    refine lv_iconst (v := 1) hx hb dX0_splitSpan_45 (by decide) ?_
    refine lv_iadd hx hb dX0_splitSpan_46 ?_
    refine lv_aload_n hx hb dX0_splitSpan_47 rfl (lv_at hl 1 rfl) ?_
    refine va_get (D := D) (ci := 0) (v := .ref a1) (C := RX0) (T := TX0) (N := 9) hx hb hts hin_X0 hown hK hP 0 rfl rfl 1 (by decide) hf_PressedPlains_Book_15 (fun _ h9 => h9) rfl dX0_splitSpan_48 ?_
    refine lv_iload_n hx hb dX0_splitSpan_51 rfl (lv_at hl 2 rfl) ?_
    refine pq_iald hx hb hK hP 2 0 rfl rfl e (by omega) (by decide) dX0_splitSpan_52 ?_
    refine pq_callV (wr := []) (own := RX0) (nL := 3) (q0 := 0) (ci := 0) [0, 1, 2, 3, 4, 5, 6] [] [.int (nI ((2 * e) + 1)), .int ((((fi e) + (la e)) / 2) + 1), .int ((upd la (2 * e) (((fi e) + (la e)) / 2)) e)] (mX0_setSpan l D cI h a0 a1 a2 a3 a4 a5 (upd fi (2 * e) (fi e)) (upd la (2 * e) (((fi e) + (la e)) / 2)) B ((2 * e) + 1) ((((fi e) + (la e)) / 2) + 1) ((upd la (2 * e) (((fi e) + (la e)) / 2)) e) (by omega)) ⟨hx, hb, hml, hown, hts⟩ (cwV 3 hts gX0_splitSpan_X0_setSpan rfl rfl rfl (by decide +kernel) ⟨by dsimp only [pq_R]; omega, by dsimp only [pq_R]; omega⟩) pq_bl0 (fun _ _ _ => trivial) hK hP hD hS hA rfl (by decide) rfl (by decide) (by decide) rfl rfl rfl rfl hl.1 rfl (Nat.le_of_ble_eq_true rfl) dX0_splitSpan_53 ⟨by dsimp only [pq_R]; omega, by dsimp only [pq_R]; omega⟩ (fun v w1 H locs hq hP hD hS hz => ?_)
    obtain ⟨rfl, rfl⟩ := hq
    have hP : va_P D vwCl [(h, .inr (0, [.ref a0, .ref a1, .ref a2, .ref a3, .ref a4, .ref a5, .int B.2.2.2.2.1, .int B.2.2.2.2.2.1, .int B.2.2.2.2.2.2])), (a0, .inl (cI, 128, .inl (upd (upd fi (2 * e) (fi e)) ((2 * e) + 1) ((((fi e) + (la e)) / 2) + 1)))), (a1, .inl (cI, 128, .inl (upd (upd la (2 * e) (((fi e) + (la e)) / 2)) ((2 * e) + 1) ((upd la (2 * e) (((fi e) + (la e)) / 2)) e)))), (a2, .inl (cI, 128, .inl B.1)), (a3, .inl (cI, 128, .inl B.2.1)), (a4, .inl (cI, 128, .inl B.2.2.1)), (a5, .inl (cI, 128, .inl B.2.2.2.1))] H := hP
    have hD : va_D A [(h, .inr (0, [.ref a0, .ref a1, .ref a2, .ref a3, .ref a4, .ref a5, .int B.2.2.2.2.1, .int B.2.2.2.2.2.1, .int B.2.2.2.2.2.2])), (a0, .inl (cI, 128, .inl (upd (upd fi (2 * e) (fi e)) ((2 * e) + 1) ((((fi e) + (la e)) / 2) + 1)))), (a1, .inl (cI, 128, .inl (upd (upd la (2 * e) (((fi e) + (la e)) / 2)) ((2 * e) + 1) ((upd la (2 * e) (((fi e) + (la e)) / 2)) e)))), (a2, .inl (cI, 128, .inl B.1)), (a3, .inl (cI, 128, .inl B.2.1)), (a4, .inl (cI, 128, .inl B.2.2.1)), (a5, .inl (cI, 128, .inl B.2.2.2.1))] := hD
    refine W.eq (g2 := F0 m 56 ls []) rfl ?_
    refine lv_goto (tgt := 79) hx hb dX0_splitSpan_56 (by decide) ?_
    exact pq_vret hQ hx hb hr hlocks hK hS hP hD dX0_splitSpan_79 (by omega) (by omega) (⟨rfl, by rw [sSplit, if_pos b_1] <;> rfl⟩)
  · rw [if_neg b_1]
    refine W.eq (g2 := F0 m 5 ls [.int 0]) rfl ?_
    refine lv_if_eq (tgt := 59) hx hb dX0_splitSpan_5 (by decide) (fun _ => ?_) (fun c9 => absurd c9 (by decide))
    refine lv_aload_n hx hb dX0_splitSpan_59 rfl (lv_at hl 0 rfl) ?_
    refine lv_iconst (v := 2) hx hb dX0_splitSpan_60 (by decide) ?_
    refine lv_iload_n hx hb dX0_splitSpan_61 rfl (lv_at hl 1 rfl) ?_
    refine lv_imul hx hb dX0_splitSpan_62 ?_
    refine pq_top (nI (2 * e)) (pk_mul 2 _) ?_
    refine lv_iconst (v := 0) hx hb dX0_splitSpan_63 (by decide) ?_
    refine lv_iconst (v := (-1)) hx hb dX0_splitSpan_64 (by decide) ?_
    refine pq_callV (wr := []) (own := RX0) (nL := 3) (q0 := 0) (ci := 0) [0, 1, 2, 3, 4, 5, 6] [] [.int (nI (2 * e)), .int 0, .int (-1)] (mX0_setSpan l D cI h a0 a1 a2 a3 a4 a5 fi la B (2 * e) 0 (-1) (by omega)) ⟨hx, hb, hml, hown, hts⟩ (cwV 3 hts gX0_splitSpan_X0_setSpan rfl rfl rfl (by decide +kernel) ⟨by dsimp only [pq_R]; omega, by dsimp only [pq_R]; omega⟩) pq_bl0 (fun _ _ _ => trivial) hK hP hD hS hA rfl (by decide) rfl (by decide) (by decide) rfl rfl rfl rfl hl.1 rfl (Nat.le_of_ble_eq_true rfl) dX0_splitSpan_65 ⟨by dsimp only [pq_R]; omega, by dsimp only [pq_R]; omega⟩ (fun v w1 H locs hq hP hD hS hz => ?_)
    obtain ⟨rfl, rfl⟩ := hq
    have hP : va_P D vwCl [(h, .inr (0, [.ref a0, .ref a1, .ref a2, .ref a3, .ref a4, .ref a5, .int B.2.2.2.2.1, .int B.2.2.2.2.2.1, .int B.2.2.2.2.2.2])), (a0, .inl (cI, 128, .inl (upd fi (2 * e) 0))), (a1, .inl (cI, 128, .inl (upd la (2 * e) (-1)))), (a2, .inl (cI, 128, .inl B.1)), (a3, .inl (cI, 128, .inl B.2.1)), (a4, .inl (cI, 128, .inl B.2.2.1)), (a5, .inl (cI, 128, .inl B.2.2.2.1))] H := hP
    have hD : va_D A [(h, .inr (0, [.ref a0, .ref a1, .ref a2, .ref a3, .ref a4, .ref a5, .int B.2.2.2.2.1, .int B.2.2.2.2.2.1, .int B.2.2.2.2.2.2])), (a0, .inl (cI, 128, .inl (upd fi (2 * e) 0))), (a1, .inl (cI, 128, .inl (upd la (2 * e) (-1)))), (a2, .inl (cI, 128, .inl B.1)), (a3, .inl (cI, 128, .inl B.2.1)), (a4, .inl (cI, 128, .inl B.2.2.1)), (a5, .inl (cI, 128, .inl B.2.2.2.1))] := hD
    refine W.eq (g2 := F0 m 68 ls []) rfl ?_
    refine lv_aload_n hx hb dX0_splitSpan_68 rfl (lv_at hl 0 rfl) ?_
    refine lv_iconst (v := 2) hx hb dX0_splitSpan_69 (by decide) ?_
    refine lv_iload_n hx hb dX0_splitSpan_70 rfl (lv_at hl 1 rfl) ?_
    refine lv_imul hx hb dX0_splitSpan_71 ?_
    refine pq_top (nI (2 * e)) (pk_mul 2 _) ?_
    refine lv_iconst (v := 1) hx hb dX0_splitSpan_72 (by decide) ?_
    refine lv_iadd hx hb dX0_splitSpan_73 ?_
    refine pq_top (nI ((2 * e) + 1)) (nI_1 _) ?_
    refine lv_iconst (v := 0) hx hb dX0_splitSpan_74 (by decide) ?_
    refine lv_iconst (v := (-1)) hx hb dX0_splitSpan_75 (by decide) ?_
    refine pq_callV (wr := []) (own := RX0) (nL := 3) (q0 := 0) (ci := 0) [0, 1, 2, 3, 4, 5, 6] [] [.int (nI ((2 * e) + 1)), .int 0, .int (-1)] (mX0_setSpan l D cI h a0 a1 a2 a3 a4 a5 (upd fi (2 * e) 0) (upd la (2 * e) (-1)) B ((2 * e) + 1) 0 (-1) (by omega)) ⟨hx, hb, hml, hown, hts⟩ (cwV 3 hts gX0_splitSpan_X0_setSpan rfl rfl rfl (by decide +kernel) ⟨by dsimp only [pq_R]; omega, by dsimp only [pq_R]; omega⟩) pq_bl0 (fun _ _ _ => trivial) hK hP hD hS hA rfl (by decide) rfl (by decide) (by decide) rfl rfl rfl rfl hl.1 rfl (Nat.le_of_ble_eq_true rfl) dX0_splitSpan_76 ⟨by dsimp only [pq_R]; omega, by dsimp only [pq_R]; omega⟩ (fun v w1 H locs hq hP hD hS hz => ?_)
    obtain ⟨rfl, rfl⟩ := hq
    have hP : va_P D vwCl [(h, .inr (0, [.ref a0, .ref a1, .ref a2, .ref a3, .ref a4, .ref a5, .int B.2.2.2.2.1, .int B.2.2.2.2.2.1, .int B.2.2.2.2.2.2])), (a0, .inl (cI, 128, .inl (upd (upd fi (2 * e) 0) ((2 * e) + 1) 0))), (a1, .inl (cI, 128, .inl (upd (upd la (2 * e) (-1)) ((2 * e) + 1) (-1)))), (a2, .inl (cI, 128, .inl B.1)), (a3, .inl (cI, 128, .inl B.2.1)), (a4, .inl (cI, 128, .inl B.2.2.1)), (a5, .inl (cI, 128, .inl B.2.2.2.1))] H := hP
    have hD : va_D A [(h, .inr (0, [.ref a0, .ref a1, .ref a2, .ref a3, .ref a4, .ref a5, .int B.2.2.2.2.1, .int B.2.2.2.2.2.1, .int B.2.2.2.2.2.2])), (a0, .inl (cI, 128, .inl (upd (upd fi (2 * e) 0) ((2 * e) + 1) 0))), (a1, .inl (cI, 128, .inl (upd (upd la (2 * e) (-1)) ((2 * e) + 1) (-1)))), (a2, .inl (cI, 128, .inl B.1)), (a3, .inl (cI, 128, .inl B.2.1)), (a4, .inl (cI, 128, .inl B.2.2.1)), (a5, .inl (cI, 128, .inl B.2.2.2.1))] := hD
    refine W.eq (g2 := F0 m 79 ls []) rfl ?_
    exact pq_vret hQ hx hb hr hlocks hK hS hP hD dX0_splitSpan_79 (by omega) (by omega) (⟨rfl, by rw [sSplit, if_neg b_1] <;> rfl⟩)

set_option maxHeartbeats 4000000 in
set_option maxRecDepth 100000 in
theorem mX0_renew (l : Launch) (D : va_G) (cI : ClassId) (h a0 a1 a2 a3 a4 a5 : Nat) (fi la : Nat → Int32) (B : BK) (n0 v0 : Int32) : pq_M l yX0_renew wsX0_renew 2 45 0 0 D [(cI, .int)] pq_0 (bkW h a0 a1 a2 a3 a4 a5 cI fi la B) [.ref h, .int n0, .int v0] (fun v w1 => v = none ∧ w1 = bkW h a0 a1 a2 a3 a4 a5 cI (sIter (upd fi 1 0, upd la 1 (n0 - 1)) 63).1 (sIter (upd fi 1 0, upd la 1 (n0 - 1)) 63).2 (bNew (sIter (upd fi 1 0, upd la 1 (n0 - 1)) 63) v0 B)) := by
  refine pq_enter (cc := cX0_renew) (maxL := 5) (ret := none) (by decide) rfl (Nat.le_of_ble_eq_true rfl) ?_
  intro p ev s m args below meth cd A ls Q H locs hx hb hr hml hts hown hlocks hnm hK hP hD hS hA hE hl hQ
  have hl : lv_has ls 5 [(0, .ref h), (1, .int n0), (2, .int v0)] := hl
  have hP : va_P D vwCl [(h, .inr (0, [.ref a0, .ref a1, .ref a2, .ref a3, .ref a4, .ref a5, .int B.2.2.2.2.1, .int B.2.2.2.2.2.1, .int B.2.2.2.2.2.2])), (a0, .inl (cI, 128, .inl fi)), (a1, .inl (cI, 128, .inl la)), (a2, .inl (cI, 128, .inl B.1)), (a3, .inl (cI, 128, .inl B.2.1)), (a4, .inl (cI, 128, .inl B.2.2.1)), (a5, .inl (cI, 128, .inl B.2.2.2.1))] H := hP
  have hD : va_D A [(h, .inr (0, [.ref a0, .ref a1, .ref a2, .ref a3, .ref a4, .ref a5, .int B.2.2.2.2.1, .int B.2.2.2.2.2.1, .int B.2.2.2.2.2.2])), (a0, .inl (cI, 128, .inl fi)), (a1, .inl (cI, 128, .inl la)), (a2, .inl (cI, 128, .inl B.1)), (a3, .inl (cI, 128, .inl B.2.1)), (a4, .inl (cI, 128, .inl B.2.2.1)), (a5, .inl (cI, 128, .inl B.2.2.2.1))] := hD
  have hin_X0 : ∀ w ∈ wsX00, w ∈ wsX0_renew := by decide +kernel
  have hf_PressedPlains_Book_15 := hts (.fieldLink RX0 15 "PressedPlains$Book" "last" "[I") (by decide +kernel)
  have hf_PressedPlains_Book_11 := hts (.fieldLink RX0 11 "PressedPlains$Book" "first" "[I") (by decide +kernel)
  have hf_PressedPlains_Book_18 := hts (.fieldLink RX0 18 "PressedPlains$Book" "greatest" "[I") (by decide +kernel)
  have hf_PressedPlains_Book_21 := hts (.fieldLink RX0 21 "PressedPlains$Book" "second" "[I") (by decide +kernel)
  have hf_PressedPlains_Book_24 := hts (.fieldLink RX0 24 "PressedPlains$Book" "many" "[I") (by decide +kernel)
  have hf_PressedPlains_Book_27 := hts (.fieldLink RX0 27 "PressedPlains$Book" "sum" "[I") (by decide +kernel)
  have hf_PressedPlains_Book_38 := hts (.fieldLink RX0 38 "PressedPlains$Book" "latestVisits" "I") (by decide +kernel)
  have hf_PressedPlains_Book_42 := hts (.fieldLink RX0 42 "PressedPlains$Book" "totalVisits" "I") (by decide +kernel)
  have hf_PressedPlains_Book_45 := hts (.fieldLink RX0 45 "PressedPlains$Book" "calls" "I") (by decide +kernel)
  refine lv_aload_n hx hb dX0_renew_0 rfl (lv_at hl 0 rfl) ?_
  refine lv_iconst (v := 1) hx hb dX0_renew_1 (by decide) ?_
  refine lv_iconst (v := 0) hx hb dX0_renew_2 (by decide) ?_
  refine lv_iload_n hx hb dX0_renew_3 rfl (lv_at hl 1 rfl) ?_
  refine lv_iconst (v := 1) hx hb dX0_renew_4 (by decide) ?_
  refine lv_isub hx hb dX0_renew_5 ?_
  refine pq_callV (wr := []) (own := RX0) (nL := 5) (q0 := 0) (ci := 0) [0, 1, 2, 3, 4, 5, 6] [] [.int 1, .int 0, .int (n0 - 1)] (mX0_setSpan l D cI h a0 a1 a2 a3 a4 a5 fi la B 1 0 (n0 - 1) (by omega)) ⟨hx, hb, hml, hown, hts⟩ (cwV 3 hts gX0_renew_X0_setSpan rfl rfl rfl (by decide +kernel) ⟨by dsimp only [pq_R]; omega, by dsimp only [pq_R]; omega⟩) pq_bl0 (fun _ _ _ => trivial) hK hP hD hS hA rfl (by decide) rfl (by decide) (by decide) rfl rfl rfl rfl hl.1 rfl (Nat.le_of_ble_eq_true rfl) dX0_renew_6 ⟨by dsimp only [pq_R]; omega, by dsimp only [pq_R]; omega⟩ (fun v w1 H locs hq hP hD hS hz => ?_)
  obtain ⟨rfl, rfl⟩ := hq
  have hP : va_P D vwCl [(h, .inr (0, [.ref a0, .ref a1, .ref a2, .ref a3, .ref a4, .ref a5, .int B.2.2.2.2.1, .int B.2.2.2.2.2.1, .int B.2.2.2.2.2.2])), (a0, .inl (cI, 128, .inl (upd fi 1 0))), (a1, .inl (cI, 128, .inl (upd la 1 (n0 - 1)))), (a2, .inl (cI, 128, .inl B.1)), (a3, .inl (cI, 128, .inl B.2.1)), (a4, .inl (cI, 128, .inl B.2.2.1)), (a5, .inl (cI, 128, .inl B.2.2.2.1))] H := hP
  have hD : va_D A [(h, .inr (0, [.ref a0, .ref a1, .ref a2, .ref a3, .ref a4, .ref a5, .int B.2.2.2.2.1, .int B.2.2.2.2.2.1, .int B.2.2.2.2.2.2])), (a0, .inl (cI, 128, .inl (upd fi 1 0))), (a1, .inl (cI, 128, .inl (upd la 1 (n0 - 1)))), (a2, .inl (cI, 128, .inl B.1)), (a3, .inl (cI, 128, .inl B.2.1)), (a4, .inl (cI, 128, .inl B.2.2.1)), (a5, .inl (cI, 128, .inl B.2.2.2.1))] := hD
  refine W.eq (g2 := F0 m 9 ls []) rfl ?_
  refine lv_iconst (v := 1) hx hb dX0_renew_9 (by decide) ?_
  refine lv_istore_n (lv' := [(3, .int 1), (0, .ref h), (1, .int n0), (2, .int v0)]) hx hb dX0_renew_10 rfl hl (by decide) rfl (fun ls hl => ?_)
  have L1 : ∀ (n : Nat) (k1 : Nat) (X : (Nat → Int32) × (Nat → Int32)), 64 - k1 < n → 1 ≤ k1 → k1 ≤ 64 → X = sIter (upd fi 1 0, upd la 1 (n0 - 1)) (k1 - 1) → ∀ (H : Heap) (locs : List Loc) (ls : Array Slot), va_P D vwCl [(h, .inr (0, [.ref a0, .ref a1, .ref a2, .ref a3, .ref a4, .ref a5, .int B.2.2.2.2.1, .int B.2.2.2.2.2.1, .int B.2.2.2.2.2.2])), (a0, .inl (cI, 128, .inl X.1)), (a1, .inl (cI, 128, .inl X.2)), (a2, .inl (cI, 128, .inl B.1)), (a3, .inl (cI, 128, .inl B.2.1)), (a4, .inl (cI, 128, .inl B.2.2.1)), (a5, .inl (cI, 128, .inl B.2.2.2.1))] H → va_D A [(h, .inr (0, [.ref a0, .ref a1, .ref a2, .ref a3, .ref a4, .ref a5, .int B.2.2.2.2.1, .int B.2.2.2.2.2.1, .int B.2.2.2.2.2.2])), (a0, .inl (cI, 128, .inl X.1)), (a1, .inl (cI, 128, .inl X.2)), (a2, .inl (cI, 128, .inl B.1)), (a3, .inl (cI, 128, .inl B.2.1)), (a4, .inl (cI, 128, .inl B.2.2.1)), (a5, .inl (cI, 128, .inl B.2.2.2.1))] → va_S A s.heap H locs → lv_has ls 5 [(3, .int (nI k1)), (0, .ref h), (1, .int n0), (2, .int v0)] → W p l ev (pq_R 2 45 0 0) s m args below meth cd H locs 0 0 Q (F0 m 11 ls []) := by
    intro n
    induction n with
    | zero => intro k1 X h1; exact absurd h1 (Nat.not_lt_zero _)
    | succ n ihL1 =>
      intro k1 X hmeas g2 g3 hX H locs ls hP hD hS hl
      refine lv_iload_n hx hb dX0_renew_11 rfl (lv_at hl 0 rfl) ?_
      refine lv_bipush (v := 64) hx hb dX0_renew_12 (by decide) ?_
      rcases Nat.lt_or_ge k1 64 with k_1 | k_1
      · refine lv_icmp_ge (tgt := 28) hx hb dX0_renew_14 (by decide) (fun c9 => absurd c9 ((nI_ge (a := k1) (b := 64) k_1 (by omega)))) (fun _ => ?_)
        refine lv_aload_n hx hb dX0_renew_17 rfl (lv_at hl 1 rfl) ?_
        refine lv_iload_n hx hb dX0_renew_18 rfl (lv_at hl 0 rfl) ?_
        refine pq_callV (wr := []) (own := RX0) (nL := 5) (q0 := 0) (ci := 0) [0, 1, 2, 3, 4, 5, 6] [] [.int (nI k1)] (mX0_splitSpan l D cI h a0 a1 a2 a3 a4 a5 X.1 X.2 B k1 (by omega)) ⟨hx, hb, hml, hown, hts⟩ (cwV 1 hts gX0_renew_X0_splitSpan rfl rfl rfl (by decide +kernel) ⟨by dsimp only [pq_R]; omega, by dsimp only [pq_R]; omega⟩) pq_bl0 (fun _ _ _ => trivial) hK hP hD hS hA rfl (by decide) rfl (by decide) (by decide) rfl rfl rfl rfl hl.1 rfl (Nat.le_of_ble_eq_true rfl) dX0_renew_19 ⟨by dsimp only [pq_R]; omega, by dsimp only [pq_R]; omega⟩ (fun v w1 H locs hq hP hD hS hz => ?_)
        obtain ⟨rfl, rfl⟩ := hq
        have hP : va_P D vwCl [(h, .inr (0, [.ref a0, .ref a1, .ref a2, .ref a3, .ref a4, .ref a5, .int B.2.2.2.2.1, .int B.2.2.2.2.2.1, .int B.2.2.2.2.2.2])), (a0, .inl (cI, 128, .inl ((sSplit X.1 X.2 k1).1))), (a1, .inl (cI, 128, .inl ((sSplit X.1 X.2 k1).2))), (a2, .inl (cI, 128, .inl B.1)), (a3, .inl (cI, 128, .inl B.2.1)), (a4, .inl (cI, 128, .inl B.2.2.1)), (a5, .inl (cI, 128, .inl B.2.2.2.1))] H := hP
        have hD : va_D A [(h, .inr (0, [.ref a0, .ref a1, .ref a2, .ref a3, .ref a4, .ref a5, .int B.2.2.2.2.1, .int B.2.2.2.2.2.1, .int B.2.2.2.2.2.2])), (a0, .inl (cI, 128, .inl ((sSplit X.1 X.2 k1).1))), (a1, .inl (cI, 128, .inl ((sSplit X.1 X.2 k1).2))), (a2, .inl (cI, 128, .inl B.1)), (a3, .inl (cI, 128, .inl B.2.1)), (a4, .inl (cI, 128, .inl B.2.2.1)), (a5, .inl (cI, 128, .inl B.2.2.2.1))] := hD
        refine W.eq (g2 := F0 m 22 ls []) rfl ?_
        refine lv_iinc (v := nI (k1 + 1)) (lv' := [(3, .int (nI (k1 + 1))), (0, .ref h), (1, .int n0), (2, .int v0)]) hx hb dX0_renew_22 hl (k := 0) rfl (nI_add _ 1) (by decide) rfl (fun ls hl => ?_)
        refine lv_goto (tgt := 11) hx hb dX0_renew_25 (by decide) ?_
        exact ihL1 (k1 + 1) (sSplit X.1 X.2 k1) (by omega) (by omega) (by omega) (by rw [hX, sIter_s (by omega)]) H locs ls hP hD hS (lv_sub hl [0, 1, 2, 3] rfl)
      · refine lv_icmp_ge (tgt := 28) hx hb dX0_renew_14 (by decide) (fun _ => ?_) (fun c9 => absurd ((nI_le (a := 64) (b := k1) k_1 (by omega))) c9)
        refine lv_iconst (v := 1) hx hb dX0_renew_28 (by decide) ?_
        refine lv_istore_n (lv' := [(3, .int 1), (0, .ref h), (1, .int n0), (2, .int v0)]) hx hb dX0_renew_29 rfl hl (by decide) rfl (fun ls hl => ?_)
        obtain ⟨fi2, la2, hfl⟩ : ∃ (f g : Nat → Int32), X = (f, g) := ⟨X.1, X.2, rfl⟩
        subst hfl
        have hP : va_P D vwCl [(h, .inr (0, [.ref a0, .ref a1, .ref a2, .ref a3, .ref a4, .ref a5, .int B.2.2.2.2.1, .int B.2.2.2.2.2.1, .int B.2.2.2.2.2.2])), (a0, .inl (cI, 128, .inl fi2)), (a1, .inl (cI, 128, .inl la2)), (a2, .inl (cI, 128, .inl B.1)), (a3, .inl (cI, 128, .inl B.2.1)), (a4, .inl (cI, 128, .inl B.2.2.1)), (a5, .inl (cI, 128, .inl B.2.2.2.1))] H := hP
        have hD : va_D A [(h, .inr (0, [.ref a0, .ref a1, .ref a2, .ref a3, .ref a4, .ref a5, .int B.2.2.2.2.1, .int B.2.2.2.2.2.1, .int B.2.2.2.2.2.2])), (a0, .inl (cI, 128, .inl fi2)), (a1, .inl (cI, 128, .inl la2)), (a2, .inl (cI, 128, .inl B.1)), (a3, .inl (cI, 128, .inl B.2.1)), (a4, .inl (cI, 128, .inl B.2.2.1)), (a5, .inl (cI, 128, .inl B.2.2.2.1))] := hD
        have L2 : ∀ (n : Nat) (kk : Nat) (Y : BK), 128 - kk < n → 1 ≤ kk → kk ≤ 128 → Y = bFill fi2 la2 v0 B (kk - 1) → ∀ (H : Heap) (locs : List Loc) (ls : Array Slot), va_P D vwCl [(h, .inr (0, [.ref a0, .ref a1, .ref a2, .ref a3, .ref a4, .ref a5, .int Y.2.2.2.2.1, .int Y.2.2.2.2.2.1, .int Y.2.2.2.2.2.2])), (a0, .inl (cI, 128, .inl fi2)), (a1, .inl (cI, 128, .inl la2)), (a2, .inl (cI, 128, .inl Y.1)), (a3, .inl (cI, 128, .inl Y.2.1)), (a4, .inl (cI, 128, .inl Y.2.2.1)), (a5, .inl (cI, 128, .inl Y.2.2.2.1))] H → va_D A [(h, .inr (0, [.ref a0, .ref a1, .ref a2, .ref a3, .ref a4, .ref a5, .int Y.2.2.2.2.1, .int Y.2.2.2.2.2.1, .int Y.2.2.2.2.2.2])), (a0, .inl (cI, 128, .inl fi2)), (a1, .inl (cI, 128, .inl la2)), (a2, .inl (cI, 128, .inl Y.1)), (a3, .inl (cI, 128, .inl Y.2.1)), (a4, .inl (cI, 128, .inl Y.2.2.1)), (a5, .inl (cI, 128, .inl Y.2.2.2.1))] → va_S A s.heap H locs → lv_has ls 5 [(3, .int (nI kk)), (0, .ref h), (1, .int n0), (2, .int v0)] → W p l ev (pq_R 2 45 0 0) s m args below meth cd H locs 0 0 Q (F0 m 30 ls []) := by
          intro n
          induction n with
          | zero => intro kk Y h1; exact absurd h1 (Nat.not_lt_zero _)
          | succ n ihL2 =>
            intro kk Y hmeas h2 h3 hY H locs ls hP hD hS hl
            refine lv_iload_n hx hb dX0_renew_30 rfl (lv_at hl 0 rfl) ?_
            refine lv_sipush (v := 128) hx hb dX0_renew_31 (by decide) ?_
            rcases Nat.lt_or_ge kk 128 with k_2 | k_2
            · refine lv_icmp_ge (tgt := 92) hx hb dX0_renew_34 (by decide) (fun c9 => absurd c9 ((nI_ge (a := kk) (b := 128) k_2 (by omega)))) (fun _ => ?_)
              refine lv_aload_n hx hb dX0_renew_37 rfl (lv_at hl 1 rfl) ?_
              refine va_get (D := D) (ci := 0) (v := .ref a1) (C := RX0) (T := TX0) (N := 9) hx hb hts hin_X0 hown hK hP 0 rfl rfl 1 (by decide) hf_PressedPlains_Book_15 (fun _ h9 => h9) rfl dX0_renew_38 ?_
              refine lv_iload_n hx hb dX0_renew_41 rfl (lv_at hl 0 rfl) ?_
              refine pq_iald hx hb hK hP 2 0 rfl rfl kk (by omega) (by decide) dX0_renew_42 ?_
              refine lv_aload_n hx hb dX0_renew_43 rfl (lv_at hl 1 rfl) ?_
              refine va_get (D := D) (ci := 0) (v := .ref a0) (C := RX0) (T := TX0) (N := 9) hx hb hts hin_X0 hown hK hP 0 rfl rfl 0 (by decide) hf_PressedPlains_Book_11 (fun _ h9 => h9) rfl dX0_renew_44 ?_
              refine lv_iload_n hx hb dX0_renew_47 rfl (lv_at hl 0 rfl) ?_
              refine pq_iald hx hb hK hP 1 0 rfl rfl kk (by omega) (by decide) dX0_renew_48 ?_
              refine lv_isub hx hb dX0_renew_49 ?_
              refine lv_iconst (v := 1) hx hb dX0_renew_50 (by decide) ?_
              refine lv_iadd hx hb dX0_renew_51 ?_
              refine lv_istore (lv' := [(4, .int (((la2 kk) - (fi2 kk)) + 1)), (3, .int (nI kk)), (0, .ref h), (1, .int n0), (2, .int v0)]) hx hb dX0_renew_52 hl (by decide) rfl (fun ls hl => ?_)
              refine lv_aload_n hx hb dX0_renew_54 rfl (lv_at hl 2 rfl) ?_
              refine va_get (D := D) (ci := 0) (v := .ref a2) (C := RX0) (T := TX0) (N := 9) hx hb hts hin_X0 hown hK hP 0 rfl rfl 2 (by decide) hf_PressedPlains_Book_18 (fun _ h9 => h9) rfl dX0_renew_55 ?_
              refine lv_iload_n hx hb dX0_renew_58 rfl (lv_at hl 1 rfl) ?_
              refine lv_iload_n hx hb dX0_renew_59 rfl (lv_at hl 4 rfl) ?_
              refine pq_iast hx hb hK hP hD hS 3 0 rfl rfl kk (by omega) (by decide) dX0_renew_60 (fun H locs hP hD hS => ?_)
              have hP : va_P D vwCl [(h, .inr (0, [.ref a0, .ref a1, .ref a2, .ref a3, .ref a4, .ref a5, .int Y.2.2.2.2.1, .int Y.2.2.2.2.2.1, .int Y.2.2.2.2.2.2])), (a0, .inl (cI, 128, .inl fi2)), (a1, .inl (cI, 128, .inl la2)), (a2, .inl (cI, 128, .inl (upd Y.1 kk v0))), (a3, .inl (cI, 128, .inl Y.2.1)), (a4, .inl (cI, 128, .inl Y.2.2.1)), (a5, .inl (cI, 128, .inl Y.2.2.2.1))] H := hP
              have hD : va_D A [(h, .inr (0, [.ref a0, .ref a1, .ref a2, .ref a3, .ref a4, .ref a5, .int Y.2.2.2.2.1, .int Y.2.2.2.2.2.1, .int Y.2.2.2.2.2.2])), (a0, .inl (cI, 128, .inl fi2)), (a1, .inl (cI, 128, .inl la2)), (a2, .inl (cI, 128, .inl (upd Y.1 kk v0))), (a3, .inl (cI, 128, .inl Y.2.1)), (a4, .inl (cI, 128, .inl Y.2.2.1)), (a5, .inl (cI, 128, .inl Y.2.2.2.1))] := hD
              refine lv_aload_n hx hb dX0_renew_61 rfl (lv_at hl 2 rfl) ?_
              refine va_get (D := D) (ci := 0) (v := .ref a3) (C := RX0) (T := TX0) (N := 9) hx hb hts hin_X0 hown hK hP 0 rfl rfl 3 (by decide) hf_PressedPlains_Book_21 (fun _ h9 => h9) rfl dX0_renew_62 ?_
              refine lv_iload_n hx hb dX0_renew_65 rfl (lv_at hl 1 rfl) ?_
              refine lv_iconst (v := (-1)) hx hb dX0_renew_66 (by decide) ?_
              refine pq_iast hx hb hK hP hD hS 4 0 rfl rfl kk (by omega) (by decide) dX0_renew_67 (fun H locs hP hD hS => ?_)
              have hP : va_P D vwCl [(h, .inr (0, [.ref a0, .ref a1, .ref a2, .ref a3, .ref a4, .ref a5, .int Y.2.2.2.2.1, .int Y.2.2.2.2.2.1, .int Y.2.2.2.2.2.2])), (a0, .inl (cI, 128, .inl fi2)), (a1, .inl (cI, 128, .inl la2)), (a2, .inl (cI, 128, .inl (upd Y.1 kk v0))), (a3, .inl (cI, 128, .inl (upd Y.2.1 kk (-1)))), (a4, .inl (cI, 128, .inl Y.2.2.1)), (a5, .inl (cI, 128, .inl Y.2.2.2.1))] H := hP
              have hD : va_D A [(h, .inr (0, [.ref a0, .ref a1, .ref a2, .ref a3, .ref a4, .ref a5, .int Y.2.2.2.2.1, .int Y.2.2.2.2.2.1, .int Y.2.2.2.2.2.2])), (a0, .inl (cI, 128, .inl fi2)), (a1, .inl (cI, 128, .inl la2)), (a2, .inl (cI, 128, .inl (upd Y.1 kk v0))), (a3, .inl (cI, 128, .inl (upd Y.2.1 kk (-1)))), (a4, .inl (cI, 128, .inl Y.2.2.1)), (a5, .inl (cI, 128, .inl Y.2.2.2.1))] := hD
              refine lv_aload_n hx hb dX0_renew_68 rfl (lv_at hl 2 rfl) ?_
              refine va_get (D := D) (ci := 0) (v := .ref a4) (C := RX0) (T := TX0) (N := 9) hx hb hts hin_X0 hown hK hP 0 rfl rfl 4 (by decide) hf_PressedPlains_Book_24 (fun _ h9 => h9) rfl dX0_renew_69 ?_
              refine lv_iload_n hx hb dX0_renew_72 rfl (lv_at hl 1 rfl) ?_
              refine lv_iload hx hb dX0_renew_73 (lv_at hl 0 rfl) ?_
              refine pq_iast hx hb hK hP hD hS 5 0 rfl rfl kk (by omega) (by decide) dX0_renew_75 (fun H locs hP hD hS => ?_)
              have hP : va_P D vwCl [(h, .inr (0, [.ref a0, .ref a1, .ref a2, .ref a3, .ref a4, .ref a5, .int Y.2.2.2.2.1, .int Y.2.2.2.2.2.1, .int Y.2.2.2.2.2.2])), (a0, .inl (cI, 128, .inl fi2)), (a1, .inl (cI, 128, .inl la2)), (a2, .inl (cI, 128, .inl (upd Y.1 kk v0))), (a3, .inl (cI, 128, .inl (upd Y.2.1 kk (-1)))), (a4, .inl (cI, 128, .inl (upd Y.2.2.1 kk (((la2 kk) - (fi2 kk)) + 1)))), (a5, .inl (cI, 128, .inl Y.2.2.2.1))] H := hP
              have hD : va_D A [(h, .inr (0, [.ref a0, .ref a1, .ref a2, .ref a3, .ref a4, .ref a5, .int Y.2.2.2.2.1, .int Y.2.2.2.2.2.1, .int Y.2.2.2.2.2.2])), (a0, .inl (cI, 128, .inl fi2)), (a1, .inl (cI, 128, .inl la2)), (a2, .inl (cI, 128, .inl (upd Y.1 kk v0))), (a3, .inl (cI, 128, .inl (upd Y.2.1 kk (-1)))), (a4, .inl (cI, 128, .inl (upd Y.2.2.1 kk (((la2 kk) - (fi2 kk)) + 1)))), (a5, .inl (cI, 128, .inl Y.2.2.2.1))] := hD
              refine lv_aload_n hx hb dX0_renew_76 rfl (lv_at hl 2 rfl) ?_
              refine va_get (D := D) (ci := 0) (v := .ref a5) (C := RX0) (T := TX0) (N := 9) hx hb hts hin_X0 hown hK hP 0 rfl rfl 5 (by decide) hf_PressedPlains_Book_27 (fun _ h9 => h9) rfl dX0_renew_77 ?_
              refine lv_iload_n hx hb dX0_renew_80 rfl (lv_at hl 1 rfl) ?_
              refine lv_iload hx hb dX0_renew_81 (lv_at hl 0 rfl) ?_
              refine lv_iload_n hx hb dX0_renew_83 rfl (lv_at hl 4 rfl) ?_
              refine lv_imul hx hb dX0_renew_84 ?_
              refine pq_iast hx hb hK hP hD hS 6 0 rfl rfl kk (by omega) (by decide) dX0_renew_85 (fun H locs hP hD hS => ?_)
              have hP : va_P D vwCl [(h, .inr (0, [.ref a0, .ref a1, .ref a2, .ref a3, .ref a4, .ref a5, .int Y.2.2.2.2.1, .int Y.2.2.2.2.2.1, .int Y.2.2.2.2.2.2])), (a0, .inl (cI, 128, .inl fi2)), (a1, .inl (cI, 128, .inl la2)), (a2, .inl (cI, 128, .inl (upd Y.1 kk v0))), (a3, .inl (cI, 128, .inl (upd Y.2.1 kk (-1)))), (a4, .inl (cI, 128, .inl (upd Y.2.2.1 kk (((la2 kk) - (fi2 kk)) + 1)))), (a5, .inl (cI, 128, .inl (upd Y.2.2.2.1 kk ((((la2 kk) - (fi2 kk)) + 1) * v0))))] H := hP
              have hD : va_D A [(h, .inr (0, [.ref a0, .ref a1, .ref a2, .ref a3, .ref a4, .ref a5, .int Y.2.2.2.2.1, .int Y.2.2.2.2.2.1, .int Y.2.2.2.2.2.2])), (a0, .inl (cI, 128, .inl fi2)), (a1, .inl (cI, 128, .inl la2)), (a2, .inl (cI, 128, .inl (upd Y.1 kk v0))), (a3, .inl (cI, 128, .inl (upd Y.2.1 kk (-1)))), (a4, .inl (cI, 128, .inl (upd Y.2.2.1 kk (((la2 kk) - (fi2 kk)) + 1)))), (a5, .inl (cI, 128, .inl (upd Y.2.2.2.1 kk ((((la2 kk) - (fi2 kk)) + 1) * v0))))] := hD
              refine lv_iinc (v := nI (kk + 1)) (lv' := [(3, .int (nI (kk + 1))), (4, .int (((la2 kk) - (fi2 kk)) + 1)), (0, .ref h), (1, .int n0), (2, .int v0)]) hx hb dX0_renew_86 hl (k := 1) rfl (nI_add _ 1) (by decide) rfl (fun ls hl => ?_)
              refine lv_goto (tgt := 30) hx hb dX0_renew_89 (by decide) ?_
              exact ihL2 (kk + 1) (upd Y.1 kk v0, upd Y.2.1 kk (-1), upd Y.2.2.1 kk (((la2 kk) - (fi2 kk)) + 1), upd Y.2.2.2.1 kk ((((la2 kk) - (fi2 kk)) + 1) * v0), Y.2.2.2.2) (by omega) (by omega) (by omega) (by rw [bFill_s _ _ _ _ (by omega), ← hY]) H locs ls hP hD hS (lv_sub hl [0, 2, 3, 4] rfl)
            · refine lv_icmp_ge (tgt := 92) hx hb dX0_renew_34 (by decide) (fun _ => ?_) (fun c9 => absurd ((nI_le (a := 128) (b := kk) k_2 (by omega))) c9)
              refine lv_aload_n hx hb dX0_renew_92 rfl (lv_at hl 1 rfl) ?_
              refine lv_iconst (v := 0) hx hb dX0_renew_93 (by decide) ?_
              refine va_put (D := D) (ci := 0) (v := .int 0) (ty := .int) (C := RX0) (T := TX0) (N := 9) hx hb hts hin_X0 tyX0 tyX0_ok nmX0 hown hK hP hD hS 0 rfl rfl 6 (by decide) hf_PressedPlains_Book_38 (fun _ h9 => h9) rfl (by decide +kernel) rfl rfl (Nat.le_of_ble_eq_true rfl) dX0_renew_94 (fun H locs hP hD hS => ?_)
              have hP : va_P D vwCl [(h, .inr (0, [.ref a0, .ref a1, .ref a2, .ref a3, .ref a4, .ref a5, .int 0, .int Y.2.2.2.2.2.1, .int Y.2.2.2.2.2.2])), (a0, .inl (cI, 128, .inl fi2)), (a1, .inl (cI, 128, .inl la2)), (a2, .inl (cI, 128, .inl Y.1)), (a3, .inl (cI, 128, .inl Y.2.1)), (a4, .inl (cI, 128, .inl Y.2.2.1)), (a5, .inl (cI, 128, .inl Y.2.2.2.1))] H := hP
              have hD : va_D A [(h, .inr (0, [.ref a0, .ref a1, .ref a2, .ref a3, .ref a4, .ref a5, .int 0, .int Y.2.2.2.2.2.1, .int Y.2.2.2.2.2.2])), (a0, .inl (cI, 128, .inl fi2)), (a1, .inl (cI, 128, .inl la2)), (a2, .inl (cI, 128, .inl Y.1)), (a3, .inl (cI, 128, .inl Y.2.1)), (a4, .inl (cI, 128, .inl Y.2.2.1)), (a5, .inl (cI, 128, .inl Y.2.2.2.1))] := hD
              refine lv_aload_n hx hb dX0_renew_97 rfl (lv_at hl 1 rfl) ?_
              refine lv_iconst (v := 0) hx hb dX0_renew_98 (by decide) ?_
              refine va_put (D := D) (ci := 0) (v := .int 0) (ty := .int) (C := RX0) (T := TX0) (N := 9) hx hb hts hin_X0 tyX0 tyX0_ok nmX0 hown hK hP hD hS 0 rfl rfl 7 (by decide) hf_PressedPlains_Book_42 (fun _ h9 => h9) rfl (by decide +kernel) rfl rfl (Nat.le_of_ble_eq_true rfl) dX0_renew_99 (fun H locs hP hD hS => ?_)
              have hP : va_P D vwCl [(h, .inr (0, [.ref a0, .ref a1, .ref a2, .ref a3, .ref a4, .ref a5, .int 0, .int 0, .int Y.2.2.2.2.2.2])), (a0, .inl (cI, 128, .inl fi2)), (a1, .inl (cI, 128, .inl la2)), (a2, .inl (cI, 128, .inl Y.1)), (a3, .inl (cI, 128, .inl Y.2.1)), (a4, .inl (cI, 128, .inl Y.2.2.1)), (a5, .inl (cI, 128, .inl Y.2.2.2.1))] H := hP
              have hD : va_D A [(h, .inr (0, [.ref a0, .ref a1, .ref a2, .ref a3, .ref a4, .ref a5, .int 0, .int 0, .int Y.2.2.2.2.2.2])), (a0, .inl (cI, 128, .inl fi2)), (a1, .inl (cI, 128, .inl la2)), (a2, .inl (cI, 128, .inl Y.1)), (a3, .inl (cI, 128, .inl Y.2.1)), (a4, .inl (cI, 128, .inl Y.2.2.1)), (a5, .inl (cI, 128, .inl Y.2.2.2.1))] := hD
              refine lv_aload_n hx hb dX0_renew_102 rfl (lv_at hl 1 rfl) ?_
              refine lv_iconst (v := 0) hx hb dX0_renew_103 (by decide) ?_
              refine va_put (D := D) (ci := 0) (v := .int 0) (ty := .int) (C := RX0) (T := TX0) (N := 9) hx hb hts hin_X0 tyX0 tyX0_ok nmX0 hown hK hP hD hS 0 rfl rfl 8 (by decide) hf_PressedPlains_Book_45 (fun _ h9 => h9) rfl (by decide +kernel) rfl rfl (Nat.le_of_ble_eq_true rfl) dX0_renew_104 (fun H locs hP hD hS => ?_)
              have hP : va_P D vwCl [(h, .inr (0, [.ref a0, .ref a1, .ref a2, .ref a3, .ref a4, .ref a5, .int 0, .int 0, .int 0])), (a0, .inl (cI, 128, .inl fi2)), (a1, .inl (cI, 128, .inl la2)), (a2, .inl (cI, 128, .inl Y.1)), (a3, .inl (cI, 128, .inl Y.2.1)), (a4, .inl (cI, 128, .inl Y.2.2.1)), (a5, .inl (cI, 128, .inl Y.2.2.2.1))] H := hP
              have hD : va_D A [(h, .inr (0, [.ref a0, .ref a1, .ref a2, .ref a3, .ref a4, .ref a5, .int 0, .int 0, .int 0])), (a0, .inl (cI, 128, .inl fi2)), (a1, .inl (cI, 128, .inl la2)), (a2, .inl (cI, 128, .inl Y.1)), (a3, .inl (cI, 128, .inl Y.2.1)), (a4, .inl (cI, 128, .inl Y.2.2.1)), (a5, .inl (cI, 128, .inl Y.2.2.2.1))] := hD
              exact pq_vret hQ hx hb hr hlocks hK hS hP hD dX0_renew_107 (by omega) (by omega) (⟨rfl, by have e1 : (fi2, la2) = sIter (upd fi 1 0, upd la 1 (n0 - 1)) 63 := (by rw [hX, show k1 - 1 = 63 by omega]); have e2 : Y = bFill fi2 la2 v0 B 127 := (by rw [hY, show kk - 1 = 127 by omega]); rw [← e1]; subst e2; rfl⟩)
        exact L2 _ 1 B (Nat.lt_succ_self _) (by decide) (by decide) rfl H locs ls hP hD hS (lv_sub hl [0, 1, 2, 3] rfl)
  exact L1 _ 1 (upd fi 1 0, upd la 1 (n0 - 1)) (Nat.lt_succ_self _) (by decide) (by decide) rfl H locs ls hP hD hS (lv_sub hl [0, 1, 2, 3] rfl)
end
section
/-! the columns, kept one by one: heights, ceilings, count, given -/
abbrev GK : Type := (Nat → Int32) × (Nat → Int32) × Int32 × Int32
def grW (g b0 b1 : Nat) (cI : ClassId) (G : GK) : va_W :=
  [(g, .inr (1, [.ref b0, .ref b1, .int G.2.2.1, .int G.2.2.2])), (b0, .inl (cI, 64, .inl G.1)), (b1, .inl (cI, 64, .inl G.2.1))]
def gSum (w : Nat → Int32) (f : Nat) : Nat → Int32
  | 0 => 0
  | n + 1 => gSum w f n + w (f + n)
theorem gSum_s (w : Nat → Int32) (f : Nat) {kk : Nat} (h : f ≤ kk) : gSum w f (kk + 1 - f) = gSum w f (kk - f) + w kk := by
  obtain ⟨j, rfl⟩ : ∃ j, kk = f + j := ⟨kk - f, by omega⟩
  rw [show f + j + 1 - f = j + 1 by omega, show f + j - f = j by omega]
  rfl
def gAbove (hs : Nat → Int32) (f n : Nat) (c : Int32) : Int32 := gSum (fun k => bMax (hs k - c) 0) f n
def gFillH (n0 v0 : Int32) (hs : Nat → Int32) : Nat → Nat → Int32
  | 0 => hs
  | k + 1 => upd (gFillH n0 v0 hs k) k (if n0 ≤ nI k then 0 else v0)
def gFillC (cs : Nat → Int32) : Nat → Nat → Int32
  | 0 => cs
  | k + 1 => upd (gFillC cs k) k (-1)
def gPressH (c : Int32) (f : Nat) (hs : Nat → Int32) : Nat → Nat → Int32
  | 0 => hs
  | n + 1 => upd (gPressH c f hs n) (f + n) (bMin (gPressH c f hs n (f + n)) c)
theorem gPressH_s (c : Int32) (f : Nat) (hs : Nat → Int32) {kk : Nat} (h : f ≤ kk) : gPressH c f hs (kk + 1 - f) = upd (gPressH c f hs (kk - f)) kk (bMin (gPressH c f hs (kk - f) kk) c) := by
  obtain ⟨j, rfl⟩ : ∃ j, kk = f + j := ⟨kk - f, by omega⟩
  rw [show f + j + 1 - f = j + 1 by omega, show f + j - f = j by omega]
  rfl
def gPressC (c : Int32) (f : Nat) (cs : Nat → Int32) : Nat → Nat → Int32
  | 0 => cs
  | n + 1 => if gPressC c f cs n (f + n) = -1 ∨ c < gPressC c f cs n (f + n) then upd (gPressC c f cs n) (f + n) c else gPressC c f cs n
theorem gPressC_s (c : Int32) (f : Nat) (cs : Nat → Int32) {kk : Nat} (h : f ≤ kk) : gPressC c f cs (kk + 1 - f) = if gPressC c f cs (kk - f) kk = -1 ∨ c < gPressC c f cs (kk - f) kk then upd (gPressC c f cs (kk - f)) kk c else gPressC c f cs (kk - f) := by
  obtain ⟨j, rfl⟩ : ∃ j, kk = f + j := ⟨kk - f, by omega⟩
  rw [show f + j + 1 - f = j + 1 by omega, show f + j - f = j by omega]
  rfl
def gHi (A : Int32 → Int32) (w : Int32) : Nat → Int32 → Int32
  | 0, c => c
  | j + 1, c => gHi A w j (if w ≤ A (c + nI (2 ^ j)) then c + nI (2 ^ j) else c)
theorem gHi_s {A : Int32 → Int32} {w : Int32} {j st : Nat} (hst : st = 2 ^ j / 2) (h0 : 0 < st) (c : Int32) : gHi A w j c = gHi A w (j - 1) (if w ≤ A (c + nI st) then c + nI st else c) := by
  cases j with
  | zero => simp at hst; omega
  | succ j =>
    have e : st = 2 ^ j := by rw [hst, Nat.pow_succ, Nat.mul_div_cancel _ (by decide)]
    rw [e]
    rfl
theorem pw_h {j st : Nat} (hst : st = 2 ^ j / 2) (h0 : 0 < st) : st / 2 = 2 ^ (j - 1) / 2 := by
  cases j with
  | zero => simp at hst; omega
  | succ j =>
    have e : st = 2 ^ j := by rw [hst, Nat.pow_succ, Nat.mul_div_cancel _ (by decide)]
    rw [e]
    rfl
theorem pw_j {j st : Nat} (hst : st = 2 ^ j / 2) (h0 : 0 < st) : 1 ≤ j := by
  cases j with
  | zero => simp at hst; omega
  | succ j => omega
theorem pw_z {j st : Nat} (hst : st = 2 ^ j / 2) (h0 : st ≤ 0) : j = 0 := by
  cases j with
  | zero => rfl
  | succ j =>
    have e : st = 2 ^ j := by rw [hst, Nat.pow_succ, Nat.mul_div_cancel _ (by decide)]
    have := Nat.two_pow_pos j
    omega
end
section
set_option maxHeartbeats 4000000 in
set_option maxRecDepth 100000 in
theorem mX1_renew (l : Launch) (D : va_G) (cI : ClassId) (g b0 b1 : Nat) (G : GK) (n0 v0 : Int32) : pq_M l yX1_renew wsX1_renew 0 0 0 0 D [(cI, .int)] pq_0 (grW g b0 b1 cI G) [.ref g, .int n0, .int v0] (fun v w1 => v = none ∧ w1 = grW g b0 b1 cI (gFillH n0 v0 G.1 64, gFillC G.2.1 64, n0, n0 * v0)) := by
  refine pq_enter (cc := cX1_renew) (maxL := 4) (ret := none) (by decide) rfl (Nat.le_of_ble_eq_true rfl) ?_
  intro p ev s m args below meth cd A ls Q H locs hx hb hr hml hts hown hlocks hnm hK hP hD hS hA hE hl hQ
  have hl : lv_has ls 4 [(0, .ref g), (1, .int n0), (2, .int v0)] := hl
  have hP : va_P D vwCl [(g, .inr (1, [.ref b0, .ref b1, .int G.2.2.1, .int G.2.2.2])), (b0, .inl (cI, 64, .inl G.1)), (b1, .inl (cI, 64, .inl G.2.1))] H := hP
  have hD : va_D A [(g, .inr (1, [.ref b0, .ref b1, .int G.2.2.1, .int G.2.2.2])), (b0, .inl (cI, 64, .inl G.1)), (b1, .inl (cI, 64, .inl G.2.1))] := hD
  have hin_X1 : ∀ w ∈ wsX10, w ∈ wsX1_renew := by decide +kernel
  have hf_PressedPlains_Ground_18 := hts (.fieldLink RX1 18 "PressedPlains$Ground" "count" "I") (by decide +kernel)
  have hf_PressedPlains_Ground_22 := hts (.fieldLink RX1 22 "PressedPlains$Ground" "given" "I") (by decide +kernel)
  have hf_PressedPlains_Ground_9 := hts (.fieldLink RX1 9 "PressedPlains$Ground" "heights" "[I") (by decide +kernel)
  have hf_PressedPlains_Ground_15 := hts (.fieldLink RX1 15 "PressedPlains$Ground" "ceilings" "[I") (by decide +kernel)
  refine lv_aload_n hx hb dX1_renew_0 rfl (lv_at hl 0 rfl) ?_
  refine lv_iload_n hx hb dX1_renew_1 rfl (lv_at hl 1 rfl) ?_
  refine va_put (D := D) (ci := 1) (v := .int n0) (ty := .int) (C := RX1) (T := TX1) (N := 4) hx hb hts hin_X1 tyX1 tyX1_ok nmX1 hown hK hP hD hS 0 rfl rfl 2 (by decide) hf_PressedPlains_Ground_18 (fun _ h9 => h9) rfl (by decide +kernel) rfl rfl (Nat.le_of_ble_eq_true rfl) dX1_renew_2 (fun H locs hP hD hS => ?_)
  have hP : va_P D vwCl [(g, .inr (1, [.ref b0, .ref b1, .int n0, .int G.2.2.2])), (b0, .inl (cI, 64, .inl G.1)), (b1, .inl (cI, 64, .inl G.2.1))] H := hP
  have hD : va_D A [(g, .inr (1, [.ref b0, .ref b1, .int n0, .int G.2.2.2])), (b0, .inl (cI, 64, .inl G.1)), (b1, .inl (cI, 64, .inl G.2.1))] := hD
  refine lv_aload_n hx hb dX1_renew_5 rfl (lv_at hl 0 rfl) ?_
  refine lv_iload_n hx hb dX1_renew_6 rfl (lv_at hl 1 rfl) ?_
  refine lv_iload_n hx hb dX1_renew_7 rfl (lv_at hl 2 rfl) ?_
  refine lv_imul hx hb dX1_renew_8 ?_
  refine va_put (D := D) (ci := 1) (v := .int (n0 * v0)) (ty := .int) (C := RX1) (T := TX1) (N := 4) hx hb hts hin_X1 tyX1 tyX1_ok nmX1 hown hK hP hD hS 0 rfl rfl 3 (by decide) hf_PressedPlains_Ground_22 (fun _ h9 => h9) rfl (by decide +kernel) rfl rfl (Nat.le_of_ble_eq_true rfl) dX1_renew_9 (fun H locs hP hD hS => ?_)
  have hP : va_P D vwCl [(g, .inr (1, [.ref b0, .ref b1, .int n0, .int (n0 * v0)])), (b0, .inl (cI, 64, .inl G.1)), (b1, .inl (cI, 64, .inl G.2.1))] H := hP
  have hD : va_D A [(g, .inr (1, [.ref b0, .ref b1, .int n0, .int (n0 * v0)])), (b0, .inl (cI, 64, .inl G.1)), (b1, .inl (cI, 64, .inl G.2.1))] := hD
  refine lv_iconst (v := 0) hx hb dX1_renew_12 (by decide) ?_
  refine lv_istore_n (lv' := [(3, .int 0), (0, .ref g), (1, .int n0), (2, .int v0)]) hx hb dX1_renew_13 rfl hl (by decide) rfl (fun ls hl => ?_)
  have LP : ∀ (n : Nat) (kk : Nat) (X Y : Nat → Int32), 64 - kk < n → kk ≤ 64 → X = gFillH n0 v0 G.1 kk → Y = gFillC G.2.1 kk → ∀ (H : Heap) (locs : List Loc) (ls : Array Slot), va_P D vwCl [(g, .inr (1, [.ref b0, .ref b1, .int n0, .int (n0 * v0)])), (b0, .inl (cI, 64, .inl X)), (b1, .inl (cI, 64, .inl Y))] H → va_D A [(g, .inr (1, [.ref b0, .ref b1, .int n0, .int (n0 * v0)])), (b0, .inl (cI, 64, .inl X)), (b1, .inl (cI, 64, .inl Y))] → va_S A s.heap H locs → lv_has ls 4 [(3, .int (nI kk)), (0, .ref g), (1, .int n0), (2, .int v0)] → W p l ev (pq_R 0 0 0 0) s m args below meth cd H locs 0 0 Q (F0 m 14 ls []) := by
    intro n
    induction n with
    | zero => intro kk X Y h1; exact absurd h1 (Nat.not_lt_zero _)
    | succ n ihLP =>
      intro kk X Y hmeas h3 hX hY H locs ls hP hD hS hl
      refine lv_iload_n hx hb dX1_renew_14 rfl (lv_at hl 0 rfl) ?_
      refine lv_bipush (v := 64) hx hb dX1_renew_15 (by decide) ?_
      rcases Nat.lt_or_ge kk 64 with k_1 | k_1
      · refine lv_icmp_ge (tgt := 49) hx hb dX1_renew_17 (by decide) (fun c9 => absurd c9 ((nI_ge (a := kk) (b := 64) k_1 (by omega)))) (fun _ => ?_)
        refine lv_aload_n hx hb dX1_renew_20 rfl (lv_at hl 1 rfl) ?_
        refine va_get (D := D) (ci := 1) (v := .ref b0) (C := RX1) (T := TX1) (N := 4) hx hb hts hin_X1 hown hK hP 0 rfl rfl 0 (by decide) hf_PressedPlains_Ground_9 (fun _ h9 => h9) rfl dX1_renew_21 ?_
        refine lv_iload_n hx hb dX1_renew_24 rfl (lv_at hl 0 rfl) ?_
        refine lv_iload_n hx hb dX1_renew_25 rfl (lv_at hl 0 rfl) ?_
        refine lv_iload_n hx hb dX1_renew_26 rfl (lv_at hl 2 rfl) ?_
        refine lv_icmp_ge (tgt := 34) hx hb dX1_renew_27 (by decide) (fun c_2 => ?_) (fun c_2 => ?_)
        · refine lv_iconst (v := 0) hx hb dX1_renew_34 (by decide) ?_
          refine pq_iast hx hb hK hP hD hS 1 0 rfl rfl kk (by omega) (by decide) dX1_renew_35 (fun H locs hP hD hS => ?_)
          have hP : va_P D vwCl [(g, .inr (1, [.ref b0, .ref b1, .int n0, .int (n0 * v0)])), (b0, .inl (cI, 64, .inl (upd X kk 0))), (b1, .inl (cI, 64, .inl Y))] H := hP
          have hD : va_D A [(g, .inr (1, [.ref b0, .ref b1, .int n0, .int (n0 * v0)])), (b0, .inl (cI, 64, .inl (upd X kk 0))), (b1, .inl (cI, 64, .inl Y))] := hD
          refine lv_aload_n hx hb dX1_renew_36 rfl (lv_at hl 1 rfl) ?_
          refine va_get (D := D) (ci := 1) (v := .ref b1) (C := RX1) (T := TX1) (N := 4) hx hb hts hin_X1 hown hK hP 0 rfl rfl 1 (by decide) hf_PressedPlains_Ground_15 (fun _ h9 => h9) rfl dX1_renew_37 ?_
          refine lv_iload_n hx hb dX1_renew_40 rfl (lv_at hl 0 rfl) ?_
          refine lv_iconst (v := (-1)) hx hb dX1_renew_41 (by decide) ?_
          refine pq_iast hx hb hK hP hD hS 2 0 rfl rfl kk (by omega) (by decide) dX1_renew_42 (fun H locs hP hD hS => ?_)
          have hP : va_P D vwCl [(g, .inr (1, [.ref b0, .ref b1, .int n0, .int (n0 * v0)])), (b0, .inl (cI, 64, .inl (upd X kk 0))), (b1, .inl (cI, 64, .inl (upd Y kk (-1))))] H := hP
          have hD : va_D A [(g, .inr (1, [.ref b0, .ref b1, .int n0, .int (n0 * v0)])), (b0, .inl (cI, 64, .inl (upd X kk 0))), (b1, .inl (cI, 64, .inl (upd Y kk (-1))))] := hD
          refine lv_iinc (v := nI (kk + 1)) (lv' := [(3, .int (nI (kk + 1))), (0, .ref g), (1, .int n0), (2, .int v0)]) hx hb dX1_renew_43 hl (k := 0) rfl (nI_add _ 1) (by decide) rfl (fun ls hl => ?_)
          refine lv_goto (tgt := 14) hx hb dX1_renew_46 (by decide) ?_
          exact ihLP (kk + 1) (upd X kk 0) (upd Y kk (-1)) (by omega) (by omega) (by rw [gFillH, if_pos c_2, ← hX]) (by rw [gFillC, ← hY]) H locs ls hP hD hS (lv_sub hl [0, 1, 2, 3] rfl)
        · refine lv_iload_n hx hb dX1_renew_30 rfl (lv_at hl 3 rfl) ?_
          refine lv_goto (tgt := 35) hx hb dX1_renew_31 (by decide) ?_
          refine pq_iast hx hb hK hP hD hS 1 0 rfl rfl kk (by omega) (by decide) dX1_renew_35 (fun H locs hP hD hS => ?_)
          have hP : va_P D vwCl [(g, .inr (1, [.ref b0, .ref b1, .int n0, .int (n0 * v0)])), (b0, .inl (cI, 64, .inl (upd X kk v0))), (b1, .inl (cI, 64, .inl Y))] H := hP
          have hD : va_D A [(g, .inr (1, [.ref b0, .ref b1, .int n0, .int (n0 * v0)])), (b0, .inl (cI, 64, .inl (upd X kk v0))), (b1, .inl (cI, 64, .inl Y))] := hD
          refine lv_aload_n hx hb dX1_renew_36 rfl (lv_at hl 1 rfl) ?_
          refine va_get (D := D) (ci := 1) (v := .ref b1) (C := RX1) (T := TX1) (N := 4) hx hb hts hin_X1 hown hK hP 0 rfl rfl 1 (by decide) hf_PressedPlains_Ground_15 (fun _ h9 => h9) rfl dX1_renew_37 ?_
          refine lv_iload_n hx hb dX1_renew_40 rfl (lv_at hl 0 rfl) ?_
          refine lv_iconst (v := (-1)) hx hb dX1_renew_41 (by decide) ?_
          refine pq_iast hx hb hK hP hD hS 2 0 rfl rfl kk (by omega) (by decide) dX1_renew_42 (fun H locs hP hD hS => ?_)
          have hP : va_P D vwCl [(g, .inr (1, [.ref b0, .ref b1, .int n0, .int (n0 * v0)])), (b0, .inl (cI, 64, .inl (upd X kk v0))), (b1, .inl (cI, 64, .inl (upd Y kk (-1))))] H := hP
          have hD : va_D A [(g, .inr (1, [.ref b0, .ref b1, .int n0, .int (n0 * v0)])), (b0, .inl (cI, 64, .inl (upd X kk v0))), (b1, .inl (cI, 64, .inl (upd Y kk (-1))))] := hD
          refine lv_iinc (v := nI (kk + 1)) (lv' := [(3, .int (nI (kk + 1))), (0, .ref g), (1, .int n0), (2, .int v0)]) hx hb dX1_renew_43 hl (k := 0) rfl (nI_add _ 1) (by decide) rfl (fun ls hl => ?_)
          refine lv_goto (tgt := 14) hx hb dX1_renew_46 (by decide) ?_
          exact ihLP (kk + 1) (upd X kk v0) (upd Y kk (-1)) (by omega) (by omega) (by rw [gFillH, if_neg c_2, ← hX]) (by rw [gFillC, ← hY]) H locs ls hP hD hS (lv_sub hl [0, 1, 2, 3] rfl)
      · refine lv_icmp_ge (tgt := 49) hx hb dX1_renew_17 (by decide) (fun _ => ?_) (fun c9 => absurd ((nI_le (a := 64) (b := kk) k_1 (by omega))) c9)
        exact pq_vret hQ hx hb hr hlocks hK hS hP hD dX1_renew_49 (by omega) (by omega) (⟨rfl, by rw [hX, hY, show kk = 64 by omega] <;> rfl⟩)
  exact LP _ 0 G.1 G.2.1 (Nat.lt_succ_self _) (by decide) rfl rfl H locs ls hP hD hS (lv_sub hl [0, 1, 2, 3] rfl)

set_option maxHeartbeats 4000000 in
set_option maxRecDepth 100000 in
theorem mX1_raise (l : Launch) (D : va_G) (cI : ClassId) (g b0 b1 : Nat) (G : GK) (kc : Nat) (w0 : Int32) (hkc : kc < 64) : pq_M l yX1_raise wsX1_raise 0 0 0 0 D [(cI, .int)] pq_0 (grW g b0 b1 cI G) [.ref g, .int (nI kc), .int w0] (fun v w1 => v = none ∧ w1 = grW g b0 b1 cI (upd G.1 kc (G.1 kc + w0), upd G.2.1 kc (-1), G.2.2.1, G.2.2.2 + w0)) := by
  refine pq_enter (cc := cX1_raise) (maxL := 3) (ret := none) (by decide) rfl (Nat.le_of_ble_eq_true rfl) ?_
  intro p ev s m args below meth cd A ls Q H locs hx hb hr hml hts hown hlocks hnm hK hP hD hS hA hE hl hQ
  have hl : lv_has ls 3 [(0, .ref g), (1, .int (nI kc)), (2, .int w0)] := hl
  have hP : va_P D vwCl [(g, .inr (1, [.ref b0, .ref b1, .int G.2.2.1, .int G.2.2.2])), (b0, .inl (cI, 64, .inl G.1)), (b1, .inl (cI, 64, .inl G.2.1))] H := hP
  have hD : va_D A [(g, .inr (1, [.ref b0, .ref b1, .int G.2.2.1, .int G.2.2.2])), (b0, .inl (cI, 64, .inl G.1)), (b1, .inl (cI, 64, .inl G.2.1))] := hD
  have hin_X1 : ∀ w ∈ wsX10, w ∈ wsX1_raise := by decide +kernel
  have hf_PressedPlains_Ground_9 := hts (.fieldLink RX1 9 "PressedPlains$Ground" "heights" "[I") (by decide +kernel)
  have hf_PressedPlains_Ground_15 := hts (.fieldLink RX1 15 "PressedPlains$Ground" "ceilings" "[I") (by decide +kernel)
  have hf_PressedPlains_Ground_22 := hts (.fieldLink RX1 22 "PressedPlains$Ground" "given" "I") (by decide +kernel)
  refine lv_aload_n hx hb dX1_raise_0 rfl (lv_at hl 0 rfl) ?_
  refine va_get (D := D) (ci := 1) (v := .ref b0) (C := RX1) (T := TX1) (N := 4) hx hb hts hin_X1 hown hK hP 0 rfl rfl 0 (by decide) hf_PressedPlains_Ground_9 (fun _ h9 => h9) rfl dX1_raise_1 ?_
  refine lv_iload_n hx hb dX1_raise_4 rfl (lv_at hl 1 rfl) ?_
  refine lv_dup2_11 hx hb dX1_raise_5 rfl rfl ?_
  refine pq_iald hx hb hK hP 1 0 rfl rfl kc (by omega) (by decide) dX1_raise_6 ?_
  refine lv_iload_n hx hb dX1_raise_7 rfl (lv_at hl 2 rfl) ?_
  refine lv_iadd hx hb dX1_raise_8 ?_
  refine pq_iast hx hb hK hP hD hS 1 0 rfl rfl kc (by omega) (by decide) dX1_raise_9 (fun H locs hP hD hS => ?_)
  have hP : va_P D vwCl [(g, .inr (1, [.ref b0, .ref b1, .int G.2.2.1, .int G.2.2.2])), (b0, .inl (cI, 64, .inl (upd G.1 kc ((G.1 kc) + w0)))), (b1, .inl (cI, 64, .inl G.2.1))] H := hP
  have hD : va_D A [(g, .inr (1, [.ref b0, .ref b1, .int G.2.2.1, .int G.2.2.2])), (b0, .inl (cI, 64, .inl (upd G.1 kc ((G.1 kc) + w0)))), (b1, .inl (cI, 64, .inl G.2.1))] := hD
  refine lv_aload_n hx hb dX1_raise_10 rfl (lv_at hl 0 rfl) ?_
  refine va_get (D := D) (ci := 1) (v := .ref b1) (C := RX1) (T := TX1) (N := 4) hx hb hts hin_X1 hown hK hP 0 rfl rfl 1 (by decide) hf_PressedPlains_Ground_15 (fun _ h9 => h9) rfl dX1_raise_11 ?_
  refine lv_iload_n hx hb dX1_raise_14 rfl (lv_at hl 1 rfl) ?_
  refine lv_iconst (v := (-1)) hx hb dX1_raise_15 (by decide) ?_
  refine pq_iast hx hb hK hP hD hS 2 0 rfl rfl kc (by omega) (by decide) dX1_raise_16 (fun H locs hP hD hS => ?_)
  have hP : va_P D vwCl [(g, .inr (1, [.ref b0, .ref b1, .int G.2.2.1, .int G.2.2.2])), (b0, .inl (cI, 64, .inl (upd G.1 kc ((G.1 kc) + w0)))), (b1, .inl (cI, 64, .inl (upd G.2.1 kc (-1))))] H := hP
  have hD : va_D A [(g, .inr (1, [.ref b0, .ref b1, .int G.2.2.1, .int G.2.2.2])), (b0, .inl (cI, 64, .inl (upd G.1 kc ((G.1 kc) + w0)))), (b1, .inl (cI, 64, .inl (upd G.2.1 kc (-1))))] := hD
  refine lv_aload_n hx hb dX1_raise_17 rfl (lv_at hl 0 rfl) ?_
  refine lv_dup hx hb dX1_raise_18 rfl ?_
  refine va_get (D := D) (ci := 1) (v := .int G.2.2.2) (C := RX1) (T := TX1) (N := 4) hx hb hts hin_X1 hown hK hP 0 rfl rfl 3 (by decide) hf_PressedPlains_Ground_22 (fun _ h9 => h9) rfl dX1_raise_19 ?_
  refine lv_iload_n hx hb dX1_raise_22 rfl (lv_at hl 2 rfl) ?_
  refine lv_iadd hx hb dX1_raise_23 ?_
  refine va_put (D := D) (ci := 1) (v := .int (G.2.2.2 + w0)) (ty := .int) (C := RX1) (T := TX1) (N := 4) hx hb hts hin_X1 tyX1 tyX1_ok nmX1 hown hK hP hD hS 0 rfl rfl 3 (by decide) hf_PressedPlains_Ground_22 (fun _ h9 => h9) rfl (by decide +kernel) rfl rfl (Nat.le_of_ble_eq_true rfl) dX1_raise_24 (fun H locs hP hD hS => ?_)
  have hP : va_P D vwCl [(g, .inr (1, [.ref b0, .ref b1, .int G.2.2.1, .int (G.2.2.2 + w0)])), (b0, .inl (cI, 64, .inl (upd G.1 kc ((G.1 kc) + w0)))), (b1, .inl (cI, 64, .inl (upd G.2.1 kc (-1))))] H := hP
  have hD : va_D A [(g, .inr (1, [.ref b0, .ref b1, .int G.2.2.1, .int (G.2.2.2 + w0)])), (b0, .inl (cI, 64, .inl (upd G.1 kc ((G.1 kc) + w0)))), (b1, .inl (cI, 64, .inl (upd G.2.1 kc (-1))))] := hD
  exact pq_vret hQ hx hb hr hlocks hK hS hP hD dX1_raise_27 (by omega) (by omega) (⟨rfl, rfl⟩)

set_option maxHeartbeats 4000000 in
set_option maxRecDepth 100000 in
theorem mX1_press (l : Launch) (D : va_G) (cI : ClassId) (g b0 b1 : Nat) (G : GK) (kf kt : Nat) (c0 : Int32) (hft : kf ≤ kt + 1) (ht : kt < 64) : pq_M l yX1_press wsX1_press 1 30 0 0 D [(cI, .int)] pq_0 (grW g b0 b1 cI G) [.ref g, .int (nI kf), .int (nI kt), .int c0] (fun v w1 => v = none ∧ w1 = grW g b0 b1 cI (gPressH c0 kf G.1 (kt + 1 - kf), gPressC c0 kf G.2.1 (kt + 1 - kf), G.2.2)) := by
  refine pq_enter (cc := cX1_press) (maxL := 5) (ret := none) (by decide) rfl (Nat.le_of_ble_eq_true rfl) ?_
  intro p ev s m args below meth cd A ls Q H locs hx hb hr hml hts hown hlocks hnm hK hP hD hS hA hE hl hQ
  have hl : lv_has ls 5 [(0, .ref g), (1, .int (nI kf)), (2, .int (nI kt)), (3, .int c0)] := hl
  have hP : va_P D vwCl [(g, .inr (1, [.ref b0, .ref b1, .int G.2.2.1, .int G.2.2.2])), (b0, .inl (cI, 64, .inl G.1)), (b1, .inl (cI, 64, .inl G.2.1))] H := hP
  have hD : va_D A [(g, .inr (1, [.ref b0, .ref b1, .int G.2.2.1, .int G.2.2.2])), (b0, .inl (cI, 64, .inl G.1)), (b1, .inl (cI, 64, .inl G.2.1))] := hD
  have hin_X1 : ∀ w ∈ wsX10, w ∈ wsX1_press := by decide +kernel
  have hf_PressedPlains_Ground_9 := hts (.fieldLink RX1 9 "PressedPlains$Ground" "heights" "[I") (by decide +kernel)
  have hm1_min25 := hts (.methodLink RX1 25 Lib.Math.min.name) (by decide +kernel)
  have hm2_min := hts (.static Lib.Math.min.name) (by decide +kernel)
  have hm3 := hts (.initialized "java/lang/Math") (by decide +kernel)
  have hm4_min := hts (.code Lib.Math.min.name Lib.Math.min.code 2 (some .int)) (by decide +kernel)
  have hf_PressedPlains_Ground_15 := hts (.fieldLink RX1 15 "PressedPlains$Ground" "ceilings" "[I") (by decide +kernel)
  refine lv_iload_n hx hb dX1_press_0 rfl (lv_at hl 1 rfl) ?_
  refine lv_istore (lv' := [(4, .int (nI kf)), (0, .ref g), (1, .int (nI kf)), (2, .int (nI kt)), (3, .int c0)]) hx hb dX1_press_1 hl (by decide) rfl (fun ls hl => ?_)
  have LP : ∀ (n : Nat) (kk : Nat) (X Y : Nat → Int32), kt + 1 - kk < n → kf ≤ kk → kk ≤ kt + 1 → X = gPressH c0 kf G.1 (kk - kf) → Y = gPressC c0 kf G.2.1 (kk - kf) → ∀ (H : Heap) (locs : List Loc) (ls : Array Slot), va_P D vwCl [(g, .inr (1, [.ref b0, .ref b1, .int G.2.2.1, .int G.2.2.2])), (b0, .inl (cI, 64, .inl X)), (b1, .inl (cI, 64, .inl Y))] H → va_D A [(g, .inr (1, [.ref b0, .ref b1, .int G.2.2.1, .int G.2.2.2])), (b0, .inl (cI, 64, .inl X)), (b1, .inl (cI, 64, .inl Y))] → va_S A s.heap H locs → lv_has ls 5 [(4, .int (nI kk)), (0, .ref g), (1, .int (nI kf)), (2, .int (nI kt)), (3, .int c0)] → W p l ev (pq_R 1 30 0 0) s m args below meth cd H locs 0 0 Q (F0 m 3 ls []) := by
    intro n
    induction n with
    | zero => intro kk X Y h1; exact absurd h1 (Nat.not_lt_zero _)
    | succ n ihLP =>
      intro kk X Y hmeas h2 h3 hX hY H locs ls hP hD hS hl
      refine lv_iload hx hb dX1_press_3 (lv_at hl 0 rfl) ?_
      refine lv_iload_n hx hb dX1_press_5 rfl (lv_at hl 3 rfl) ?_
      rcases Nat.lt_or_ge kt kk with k_1 | k_1
      · refine lv_icmp_gt (tgt := 63) hx hb dX1_press_6 (by decide) (fun _ => ?_) (fun c9 => absurd ((nI_lt (a := kt) (b := kk) k_1 (by omega))) c9)
        exact pq_vret hQ hx hb hr hlocks hK hS hP hD dX1_press_63 (by omega) (by omega) (⟨rfl, by rw [hX, hY, show kk = kt + 1 by omega] <;> rfl⟩)
      · refine lv_icmp_gt (tgt := 63) hx hb dX1_press_6 (by decide) (fun c9 => absurd c9 ((nI_nlt (a := kt) (b := kk) k_1 (by omega)))) (fun _ => ?_)
        refine lv_aload_n hx hb dX1_press_9 rfl (lv_at hl 1 rfl) ?_
        refine va_get (D := D) (ci := 1) (v := .ref b0) (C := RX1) (T := TX1) (N := 4) hx hb hts hin_X1 hown hK hP 0 rfl rfl 0 (by decide) hf_PressedPlains_Ground_9 (fun _ h9 => h9) rfl dX1_press_10 ?_
        refine lv_iload hx hb dX1_press_13 (lv_at hl 0 rfl) ?_
        refine lv_aload_n hx hb dX1_press_15 rfl (lv_at hl 1 rfl) ?_
        refine va_get (D := D) (ci := 1) (v := .ref b0) (C := RX1) (T := TX1) (N := 4) hx hb hts hin_X1 hown hK hP 0 rfl rfl 0 (by decide) hf_PressedPlains_Ground_9 (fun _ h9 => h9) rfl dX1_press_16 ?_
        refine lv_iload hx hb dX1_press_19 (lv_at hl 0 rfl) ?_
        refine pq_iald hx hb hK hP 1 0 rfl rfl kk (by omega) (by decide) dX1_press_21 ?_
        refine lv_iload_n hx hb dX1_press_22 rfl (lv_at hl 4 rfl) ?_
        refine va_mmin hx hb (hml.trans hl.1.symm) hown hm1_min25 hm2_min hm3 hm4_min (by first | exact Nat.le_of_ble_eq_true rfl | (dsimp only [pq_R]; omega)) (by first | exact Nat.le_of_ble_eq_true rfl | (simp only [List.map_nil, List.map_cons, List.sum_nil, List.sum_cons, pq_R, Value.category]; omega)) (Nat.le_of_ble_eq_true rfl) (Nat.le_of_ble_eq_true rfl) dX1_press_23 ?_
        refine pq_top (bMin (X kk) c0) rfl ?_
        refine pq_iast hx hb hK hP hD hS 1 0 rfl rfl kk (by omega) (by decide) dX1_press_26 (fun H locs hP hD hS => ?_)
        have hP : va_P D vwCl [(g, .inr (1, [.ref b0, .ref b1, .int G.2.2.1, .int G.2.2.2])), (b0, .inl (cI, 64, .inl (upd X kk (bMin (X kk) c0)))), (b1, .inl (cI, 64, .inl Y))] H := hP
        have hD : va_D A [(g, .inr (1, [.ref b0, .ref b1, .int G.2.2.1, .int G.2.2.2])), (b0, .inl (cI, 64, .inl (upd X kk (bMin (X kk) c0)))), (b1, .inl (cI, 64, .inl Y))] := hD
        refine lv_aload_n hx hb dX1_press_27 rfl (lv_at hl 1 rfl) ?_
        refine va_get (D := D) (ci := 1) (v := .ref b1) (C := RX1) (T := TX1) (N := 4) hx hb hts hin_X1 hown hK hP 0 rfl rfl 1 (by decide) hf_PressedPlains_Ground_15 (fun _ h9 => h9) rfl dX1_press_28 ?_
        refine lv_iload hx hb dX1_press_31 (lv_at hl 0 rfl) ?_
        refine pq_iald hx hb hK hP 2 0 rfl rfl kk (by omega) (by decide) dX1_press_33 ?_
        refine lv_iconst (v := (-1)) hx hb dX1_press_34 (by decide) ?_
        refine lv_icmp_eq (tgt := 49) hx hb dX1_press_35 (by decide) (fun c_2 => ?_) (fun c_2 => ?_)
        · refine lv_aload_n hx hb dX1_press_49 rfl (lv_at hl 1 rfl) ?_
          refine va_get (D := D) (ci := 1) (v := .ref b1) (C := RX1) (T := TX1) (N := 4) hx hb hts hin_X1 hown hK hP 0 rfl rfl 1 (by decide) hf_PressedPlains_Ground_15 (fun _ h9 => h9) rfl dX1_press_50 ?_
          refine lv_iload hx hb dX1_press_53 (lv_at hl 0 rfl) ?_
          refine lv_iload_n hx hb dX1_press_55 rfl (lv_at hl 4 rfl) ?_
          refine pq_iast hx hb hK hP hD hS 2 0 rfl rfl kk (by omega) (by decide) dX1_press_56 (fun H locs hP hD hS => ?_)
          have hP : va_P D vwCl [(g, .inr (1, [.ref b0, .ref b1, .int G.2.2.1, .int G.2.2.2])), (b0, .inl (cI, 64, .inl (upd X kk (bMin (X kk) c0)))), (b1, .inl (cI, 64, .inl (upd Y kk c0)))] H := hP
          have hD : va_D A [(g, .inr (1, [.ref b0, .ref b1, .int G.2.2.1, .int G.2.2.2])), (b0, .inl (cI, 64, .inl (upd X kk (bMin (X kk) c0)))), (b1, .inl (cI, 64, .inl (upd Y kk c0)))] := hD
          refine lv_iinc (v := nI (kk + 1)) (lv' := [(4, .int (nI (kk + 1))), (0, .ref g), (1, .int (nI kf)), (2, .int (nI kt)), (3, .int c0)]) hx hb dX1_press_57 hl (k := 0) rfl (nI_add _ 1) (by decide) rfl (fun ls hl => ?_)
          refine lv_goto (tgt := 3) hx hb dX1_press_60 (by decide) ?_
          exact ihLP (kk + 1) (upd X kk (bMin (X kk) c0)) (upd Y kk c0) (by omega) (by omega) (by omega) (by rw [gPressH_s _ _ _ h2, ← hX]) (by rw [gPressC_s _ _ _ h2, ← hY, if_pos (Or.inl c_2)]) H locs ls hP hD hS (lv_sub hl [0, 1, 2, 3, 4] rfl)
        · refine lv_iload_n hx hb dX1_press_38 rfl (lv_at hl 4 rfl) ?_
          refine lv_aload_n hx hb dX1_press_39 rfl (lv_at hl 1 rfl) ?_
          refine va_get (D := D) (ci := 1) (v := .ref b1) (C := RX1) (T := TX1) (N := 4) hx hb hts hin_X1 hown hK hP 0 rfl rfl 1 (by decide) hf_PressedPlains_Ground_15 (fun _ h9 => h9) rfl dX1_press_40 ?_
          refine lv_iload hx hb dX1_press_43 (lv_at hl 0 rfl) ?_
          refine pq_iald hx hb hK hP 2 0 rfl rfl kk (by omega) (by decide) dX1_press_45 ?_
          refine lv_icmp_ge (tgt := 57) hx hb dX1_press_46 (by decide) (fun c_3 => ?_) (fun c_3 => ?_)
          · refine lv_iinc (v := nI (kk + 1)) (lv' := [(4, .int (nI (kk + 1))), (0, .ref g), (1, .int (nI kf)), (2, .int (nI kt)), (3, .int c0)]) hx hb dX1_press_57 hl (k := 0) rfl (nI_add _ 1) (by decide) rfl (fun ls hl => ?_)
            refine lv_goto (tgt := 3) hx hb dX1_press_60 (by decide) ?_
            exact ihLP (kk + 1) (upd X kk (bMin (X kk) c0)) Y (by omega) (by omega) (by omega) (by rw [gPressH_s _ _ _ h2, ← hX]) (by rw [gPressC_s _ _ _ h2, ← hY, if_neg (fun h => h.elim c_2 (i_nlt c_3))]) H locs ls hP hD hS (lv_sub hl [0, 1, 2, 3, 4] rfl)
          · refine lv_aload_n hx hb dX1_press_49 rfl (lv_at hl 1 rfl) ?_
            refine va_get (D := D) (ci := 1) (v := .ref b1) (C := RX1) (T := TX1) (N := 4) hx hb hts hin_X1 hown hK hP 0 rfl rfl 1 (by decide) hf_PressedPlains_Ground_15 (fun _ h9 => h9) rfl dX1_press_50 ?_
            refine lv_iload hx hb dX1_press_53 (lv_at hl 0 rfl) ?_
            refine lv_iload_n hx hb dX1_press_55 rfl (lv_at hl 4 rfl) ?_
            refine pq_iast hx hb hK hP hD hS 2 0 rfl rfl kk (by omega) (by decide) dX1_press_56 (fun H locs hP hD hS => ?_)
            have hP : va_P D vwCl [(g, .inr (1, [.ref b0, .ref b1, .int G.2.2.1, .int G.2.2.2])), (b0, .inl (cI, 64, .inl (upd X kk (bMin (X kk) c0)))), (b1, .inl (cI, 64, .inl (upd Y kk c0)))] H := hP
            have hD : va_D A [(g, .inr (1, [.ref b0, .ref b1, .int G.2.2.1, .int G.2.2.2])), (b0, .inl (cI, 64, .inl (upd X kk (bMin (X kk) c0)))), (b1, .inl (cI, 64, .inl (upd Y kk c0)))] := hD
            refine lv_iinc (v := nI (kk + 1)) (lv' := [(4, .int (nI (kk + 1))), (0, .ref g), (1, .int (nI kf)), (2, .int (nI kt)), (3, .int c0)]) hx hb dX1_press_57 hl (k := 0) rfl (nI_add _ 1) (by decide) rfl (fun ls hl => ?_)
            refine lv_goto (tgt := 3) hx hb dX1_press_60 (by decide) ?_
            exact ihLP (kk + 1) (upd X kk (bMin (X kk) c0)) (upd Y kk c0) (by omega) (by omega) (by omega) (by rw [gPressH_s _ _ _ h2, ← hX]) (by rw [gPressC_s _ _ _ h2, ← hY, if_pos (Or.inr (i_lt c_3))]) H locs ls hP hD hS (lv_sub hl [0, 1, 2, 3, 4] rfl)
  exact LP _ kf G.1 G.2.1 (Nat.lt_succ_self _) (Nat.le_refl _) (by omega) (by rw [Nat.sub_self] <;> rfl) (by rw [Nat.sub_self] <;> rfl) H locs ls hP hD hS (lv_sub hl [0, 1, 2, 3, 4] rfl)

set_option maxHeartbeats 4000000 in
set_option maxRecDepth 100000 in
theorem mX1_earthAbove (l : Launch) (D : va_G) (cI : ClassId) (g b0 b1 : Nat) (G : GK) (kf kt : Nat) (c0 : Int32) (hft : kf ≤ kt + 1) (ht : kt < 64) : pq_M l yX1_earthAbove wsX1_earthAbove 1 30 0 0 D [(cI, .int)] pq_0 (grW g b0 b1 cI G) [.ref g, .int (nI kf), .int (nI kt), .int c0] (fun v w1 => v = some (.int (gAbove G.1 kf (kt + 1 - kf) c0)) ∧ w1 = grW g b0 b1 cI G) := by
  refine pq_enter (cc := cX1_earthAbove) (maxL := 6) (ret := (some .int)) (by decide) rfl (Nat.le_of_ble_eq_true rfl) ?_
  intro p ev s m args below meth cd A ls Q H locs hx hb hr hml hts hown hlocks hnm hK hP hD hS hA hE hl hQ
  have hl : lv_has ls 6 [(0, .ref g), (1, .int (nI kf)), (2, .int (nI kt)), (3, .int c0)] := hl
  have hP : va_P D vwCl [(g, .inr (1, [.ref b0, .ref b1, .int G.2.2.1, .int G.2.2.2])), (b0, .inl (cI, 64, .inl G.1)), (b1, .inl (cI, 64, .inl G.2.1))] H := hP
  have hD : va_D A [(g, .inr (1, [.ref b0, .ref b1, .int G.2.2.1, .int G.2.2.2])), (b0, .inl (cI, 64, .inl G.1)), (b1, .inl (cI, 64, .inl G.2.1))] := hD
  have hin_X1 : ∀ w ∈ wsX10, w ∈ wsX1_earthAbove := by decide +kernel
  have hf_PressedPlains_Ground_9 := hts (.fieldLink RX1 9 "PressedPlains$Ground" "heights" "[I") (by decide +kernel)
  have hm1_max31 := hts (.methodLink RX1 31 Lib.Math.max.name) (by decide +kernel)
  have hm2_max := hts (.static Lib.Math.max.name) (by decide +kernel)
  have hm3 := hts (.initialized "java/lang/Math") (by decide +kernel)
  have hm4_max := hts (.code Lib.Math.max.name Lib.Math.max.code 2 (some .int)) (by decide +kernel)
  refine lv_iconst (v := 0) hx hb dX1_earthAbove_0 (by decide) ?_
  refine lv_istore (lv' := [(4, .int 0), (0, .ref g), (1, .int (nI kf)), (2, .int (nI kt)), (3, .int c0)]) hx hb dX1_earthAbove_1 hl (by decide) rfl (fun ls hl => ?_)
  refine lv_iload_n hx hb dX1_earthAbove_3 rfl (lv_at hl 2 rfl) ?_
  refine lv_istore (lv' := [(5, .int (nI kf)), (4, .int 0), (0, .ref g), (1, .int (nI kf)), (2, .int (nI kt)), (3, .int c0)]) hx hb dX1_earthAbove_4 hl (by decide) rfl (fun ls hl => ?_)
  have LP : ∀ (n : Nat) (kk : Nat) (r : Int32), kt + 1 - kk < n → kf ≤ kk → kk ≤ kt + 1 → r = gAbove G.1 kf (kk - kf) c0 → ∀ (H : Heap) (locs : List Loc) (ls : Array Slot), va_P D vwCl [(g, .inr (1, [.ref b0, .ref b1, .int G.2.2.1, .int G.2.2.2])), (b0, .inl (cI, 64, .inl G.1)), (b1, .inl (cI, 64, .inl G.2.1))] H → va_D A [(g, .inr (1, [.ref b0, .ref b1, .int G.2.2.1, .int G.2.2.2])), (b0, .inl (cI, 64, .inl G.1)), (b1, .inl (cI, 64, .inl G.2.1))] → va_S A s.heap H locs → lv_has ls 6 [(5, .int (nI kk)), (4, .int r), (0, .ref g), (1, .int (nI kf)), (2, .int (nI kt)), (3, .int c0)] → W p l ev (pq_R 1 30 0 0) s m args below meth cd H locs 0 0 Q (F0 m 6 ls []) := by
    intro n
    induction n with
    | zero => intro kk r h1; exact absurd h1 (Nat.not_lt_zero _)
    | succ n ihLP =>
      intro kk r hmeas h2 h3 hrr H locs ls hP hD hS hl
      refine lv_iload hx hb dX1_earthAbove_6 (lv_at hl 0 rfl) ?_
      refine lv_iload_n hx hb dX1_earthAbove_8 rfl (lv_at hl 4 rfl) ?_
      rcases Nat.lt_or_ge kt kk with k_1 | k_1
      · refine lv_icmp_gt (tgt := 36) hx hb dX1_earthAbove_9 (by decide) (fun _ => ?_) (fun c9 => absurd ((nI_lt (a := kt) (b := kk) k_1 (by omega))) c9)
        refine lv_iload hx hb dX1_earthAbove_36 (lv_at hl 1 rfl) ?_
        exact pq_iret hQ hx hb hr hlocks hK hS hP hD dX1_earthAbove_38 (by omega) (by omega) (⟨by rw [hrr, show kk = kt + 1 by omega], rfl⟩)
      · refine lv_icmp_gt (tgt := 36) hx hb dX1_earthAbove_9 (by decide) (fun c9 => absurd c9 ((nI_nlt (a := kt) (b := kk) k_1 (by omega)))) (fun _ => ?_)
        refine lv_iload hx hb dX1_earthAbove_12 (lv_at hl 1 rfl) ?_
        refine lv_aload_n hx hb dX1_earthAbove_14 rfl (lv_at hl 2 rfl) ?_
        refine va_get (D := D) (ci := 1) (v := .ref b0) (C := RX1) (T := TX1) (N := 4) hx hb hts hin_X1 hown hK hP 0 rfl rfl 0 (by decide) hf_PressedPlains_Ground_9 (fun _ h9 => h9) rfl dX1_earthAbove_15 ?_
        refine lv_iload hx hb dX1_earthAbove_18 (lv_at hl 0 rfl) ?_
        refine pq_iald hx hb hK hP 1 0 rfl rfl kk (by omega) (by decide) dX1_earthAbove_20 ?_
        refine lv_iload_n hx hb dX1_earthAbove_21 rfl (lv_at hl 5 rfl) ?_
        refine lv_isub hx hb dX1_earthAbove_22 ?_
        refine lv_iconst (v := 0) hx hb dX1_earthAbove_23 (by decide) ?_
        refine va_mmax hx hb (hml.trans hl.1.symm) hown hm1_max31 hm2_max hm3 hm4_max (by first | exact Nat.le_of_ble_eq_true rfl | (dsimp only [pq_R]; omega)) (by first | exact Nat.le_of_ble_eq_true rfl | (simp only [List.map_nil, List.map_cons, List.sum_nil, List.sum_cons, pq_R, Value.category]; omega)) (Nat.le_of_ble_eq_true rfl) (Nat.le_of_ble_eq_true rfl) dX1_earthAbove_24 ?_
        refine pq_top (bMax ((G.1 kk) - c0) 0) rfl ?_
        refine lv_iadd hx hb dX1_earthAbove_27 ?_
        refine lv_istore (lv' := [(4, .int (r + (bMax ((G.1 kk) - c0) 0))), (5, .int (nI kk)), (0, .ref g), (1, .int (nI kf)), (2, .int (nI kt)), (3, .int c0)]) hx hb dX1_earthAbove_28 hl (by decide) rfl (fun ls hl => ?_)
        refine lv_iinc (v := nI (kk + 1)) (lv' := [(5, .int (nI (kk + 1))), (4, .int (r + (bMax ((G.1 kk) - c0) 0))), (0, .ref g), (1, .int (nI kf)), (2, .int (nI kt)), (3, .int c0)]) hx hb dX1_earthAbove_30 hl (k := 1) rfl (nI_add _ 1) (by decide) rfl (fun ls hl => ?_)
        refine lv_goto (tgt := 6) hx hb dX1_earthAbove_33 (by decide) ?_
        exact ihLP (kk + 1) (r + (bMax ((G.1 kk) - c0) 0)) (by omega) (by omega) (by omega) (by rw [gAbove, gSum_s _ _ h2, ← gAbove, ← hrr]) H locs ls hP hD hS (lv_sub hl [0, 1, 2, 3, 4, 5] rfl)
  exact LP _ kf 0 (Nat.lt_succ_self _) (Nat.le_refl _) (by omega) (by rw [Nat.sub_self] <;> rfl) H locs ls hP hD hS (lv_sub hl [0, 1, 2, 3, 4, 5] rfl)

set_option maxHeartbeats 4000000 in
set_option maxRecDepth 100000 in
theorem mX1_highestCeilingFor (l : Launch) (D : va_G) (cI : ClassId) (g b0 b1 : Nat) (G : GK) (kf kt : Nat) (w0 : Int32) (hft : kf ≤ kt + 1) (ht : kt < 64) : pq_M l yX1_highestCeilingFor wsX1_highestCeilingFor 2 55 0 0 D [(cI, .int)] pq_0 (grW g b0 b1 cI G) [.ref g, .int (nI kf), .int (nI kt), .int w0] (fun v w1 => v = some (.int (if (gAbove G.1 kf (kt + 1 - kf)) 0 < w0 then -1 else gHi (gAbove G.1 kf (kt + 1 - kf)) w0 10 0)) ∧ w1 = grW g b0 b1 cI G) := by
  refine pq_enter (cc := cX1_highestCeilingFor) (maxL := 6) (ret := (some .int)) (by decide) rfl (Nat.le_of_ble_eq_true rfl) ?_
  intro p ev s m args below meth cd A ls Q H locs hx hb hr hml hts hown hlocks hnm hK hP hD hS hA hE hl hQ
  have hl : lv_has ls 6 [(0, .ref g), (1, .int (nI kf)), (2, .int (nI kt)), (3, .int w0)] := hl
  have hP : va_P D vwCl [(g, .inr (1, [.ref b0, .ref b1, .int G.2.2.1, .int G.2.2.2])), (b0, .inl (cI, 64, .inl G.1)), (b1, .inl (cI, 64, .inl G.2.1))] H := hP
  have hD : va_D A [(g, .inr (1, [.ref b0, .ref b1, .int G.2.2.1, .int G.2.2.2])), (b0, .inl (cI, 64, .inl G.1)), (b1, .inl (cI, 64, .inl G.2.1))] := hD
  refine lv_aload_n hx hb dX1_highestCeilingFor_0 rfl (lv_at hl 0 rfl) ?_
  refine lv_iload_n hx hb dX1_highestCeilingFor_1 rfl (lv_at hl 1 rfl) ?_
  refine lv_iload_n hx hb dX1_highestCeilingFor_2 rfl (lv_at hl 2 rfl) ?_
  refine lv_iconst (v := 0) hx hb dX1_highestCeilingFor_3 (by decide) ?_
  refine pq_callV (wr := []) (own := RX1) (nL := 6) (q0 := 0) (ci := 1) [0, 1, 2] [] [.int (nI kf), .int (nI kt), .int 0] (mX1_earthAbove l D cI g b0 b1 G kf kt 0 (by omega) (by omega)) ⟨hx, hb, hml, hown, hts⟩ (cwV 3 hts gX1_highestCeilingFor_X1_earthAbove rfl rfl rfl (by decide +kernel) ⟨by dsimp only [pq_R]; omega, by dsimp only [pq_R]; omega⟩) pq_bl0 (fun _ _ _ => trivial) hK hP hD hS hA rfl (by decide) rfl (by decide) (by decide) rfl rfl rfl rfl hl.1 rfl (Nat.le_of_ble_eq_true rfl) dX1_highestCeilingFor_4 ⟨by dsimp only [pq_R]; omega, by dsimp only [pq_R]; omega⟩ (fun v w1 H locs hq hP hD hS hz => ?_)
  obtain ⟨rfl, rfl⟩ := hq
  have hP : va_P D vwCl [(g, .inr (1, [.ref b0, .ref b1, .int G.2.2.1, .int G.2.2.2])), (b0, .inl (cI, 64, .inl G.1)), (b1, .inl (cI, 64, .inl G.2.1))] H := hP
  have hD : va_D A [(g, .inr (1, [.ref b0, .ref b1, .int G.2.2.1, .int G.2.2.2])), (b0, .inl (cI, 64, .inl G.1)), (b1, .inl (cI, 64, .inl G.2.1))] := hD
  refine W.eq (g2 := F0 m 7 ls [.int (gAbove G.1 kf (kt + 1 - kf) 0)]) rfl ?_
  refine lv_iload_n hx hb dX1_highestCeilingFor_7 rfl (lv_at hl 3 rfl) ?_
  refine lv_icmp_ge (tgt := 13) hx hb dX1_highestCeilingFor_8 (by decide) (fun c_1 => ?_) (fun c_1 => ?_)
  · refine lv_iconst (v := 0) hx hb dX1_highestCeilingFor_13 (by decide) ?_
    refine lv_istore (lv' := [(4, .int 0), (0, .ref g), (1, .int (nI kf)), (2, .int (nI kt)), (3, .int w0)]) hx hb dX1_highestCeilingFor_14 hl (by decide) rfl (fun ls hl => ?_)
    refine lv_sipush (v := 512) hx hb dX1_highestCeilingFor_16 (by decide) ?_
    refine lv_istore (lv' := [(5, .int 512), (4, .int 0), (0, .ref g), (1, .int (nI kf)), (2, .int (nI kt)), (3, .int w0)]) hx hb dX1_highestCeilingFor_19 hl (by decide) rfl (fun ls hl => ?_)
    have LP : ∀ (n : Nat) (j st : Nat) (r : Int32), j < n → st = 2 ^ j / 2 → st ≤ 512 → gHi (gAbove G.1 kf (kt + 1 - kf)) w0 j r = gHi (gAbove G.1 kf (kt + 1 - kf)) w0 10 0 → ∀ (H : Heap) (locs : List Loc) (ls : Array Slot), va_P D vwCl [(g, .inr (1, [.ref b0, .ref b1, .int G.2.2.1, .int G.2.2.2])), (b0, .inl (cI, 64, .inl G.1)), (b1, .inl (cI, 64, .inl G.2.1))] H → va_D A [(g, .inr (1, [.ref b0, .ref b1, .int G.2.2.1, .int G.2.2.2])), (b0, .inl (cI, 64, .inl G.1)), (b1, .inl (cI, 64, .inl G.2.1))] → va_S A s.heap H locs → lv_has ls 6 [(5, .int (nI st)), (4, .int r), (0, .ref g), (1, .int (nI kf)), (2, .int (nI kt)), (3, .int w0)] → W p l ev (pq_R 2 55 0 0) s m args below meth cd H locs 0 0 Q (F0 m 21 ls []) := by
      intro n
      induction n with
      | zero => intro j st r h1; exact absurd h1 (Nat.not_lt_zero _)
      | succ n ihLP =>
        intro j st r hmeas hst hs5 hrr H locs ls hP hD hS hl
        refine lv_iload hx hb dX1_highestCeilingFor_21 (lv_at hl 0 rfl) ?_
        rcases Nat.lt_or_ge 0 st with k_2 | k_2
        · refine lv_if_le (tgt := 57) hx hb dX1_highestCeilingFor_23 (by decide) (fun c9 => absurd c9 ((nI_ge (a := 0) (b := st) k_2 (by omega)))) (fun _ => ?_)
          refine lv_aload_n hx hb dX1_highestCeilingFor_26 rfl (lv_at hl 2 rfl) ?_
          refine lv_iload_n hx hb dX1_highestCeilingFor_27 rfl (lv_at hl 3 rfl) ?_
          refine lv_iload_n hx hb dX1_highestCeilingFor_28 rfl (lv_at hl 4 rfl) ?_
          refine lv_iload hx hb dX1_highestCeilingFor_29 (lv_at hl 1 rfl) ?_
          refine lv_iload hx hb dX1_highestCeilingFor_31 (lv_at hl 0 rfl) ?_
          refine lv_iadd hx hb dX1_highestCeilingFor_33 ?_
          refine pq_callV (wr := []) (own := RX1) (nL := 6) (q0 := 0) (ci := 1) [0, 1, 2] [] [.int (nI kf), .int (nI kt), .int (r + (nI st))] (mX1_earthAbove l D cI g b0 b1 G kf kt (r + (nI st)) (by omega) (by omega)) ⟨hx, hb, hml, hown, hts⟩ (cwV 3 hts gX1_highestCeilingFor_X1_earthAbove rfl rfl rfl (by decide +kernel) ⟨by dsimp only [pq_R]; omega, by dsimp only [pq_R]; omega⟩) pq_bl0 (fun _ _ _ => trivial) hK hP hD hS hA rfl (by decide) rfl (by decide) (by decide) rfl rfl rfl rfl hl.1 rfl (Nat.le_of_ble_eq_true rfl) dX1_highestCeilingFor_34 ⟨by dsimp only [pq_R]; omega, by dsimp only [pq_R]; omega⟩ (fun v w1 H locs hq hP hD hS hz => ?_)
          obtain ⟨rfl, rfl⟩ := hq
          have hP : va_P D vwCl [(g, .inr (1, [.ref b0, .ref b1, .int G.2.2.1, .int G.2.2.2])), (b0, .inl (cI, 64, .inl G.1)), (b1, .inl (cI, 64, .inl G.2.1))] H := hP
          have hD : va_D A [(g, .inr (1, [.ref b0, .ref b1, .int G.2.2.1, .int G.2.2.2])), (b0, .inl (cI, 64, .inl G.1)), (b1, .inl (cI, 64, .inl G.2.1))] := hD
          refine W.eq (g2 := F0 m 37 ls [.int (gAbove G.1 kf (kt + 1 - kf) (r + (nI st)))]) rfl ?_
          refine lv_iload_n hx hb dX1_highestCeilingFor_37 rfl (lv_at hl 5 rfl) ?_
          refine lv_icmp_lt (tgt := 48) hx hb dX1_highestCeilingFor_38 (by decide) (fun c_3 => ?_) (fun c_3 => ?_)
          · refine lv_iload hx hb dX1_highestCeilingFor_48 (lv_at hl 0 rfl) ?_
            refine lv_iconst (v := 2) hx hb dX1_highestCeilingFor_50 (by decide) ?_
            refine lv_idiv hx hb dX1_highestCeilingFor_51 (by decide) ?_
            refine pq_top (nI (st / 2)) (pk_div (d := 2) (by omega) (by decide) (by decide)) ?_
            refine lv_istore (lv' := [(5, .int (nI (st / 2))), (4, .int r), (0, .ref g), (1, .int (nI kf)), (2, .int (nI kt)), (3, .int w0)]) hx hb dX1_highestCeilingFor_52 hl (by decide) rfl (fun ls hl => ?_)
            refine lv_goto (tgt := 21) hx hb dX1_highestCeilingFor_54 (by decide) ?_
            exact ihLP (j - 1) (st / 2) r (by have := pw_j hst k_2; omega) (pw_h hst k_2) (by omega) (by rw [← hrr, gHi_s hst k_2 r, if_neg (i_nle c_3)]) H locs ls hP hD hS (lv_sub hl [0, 1, 2, 3, 4, 5] rfl)
          · refine lv_iload hx hb dX1_highestCeilingFor_41 (lv_at hl 1 rfl) ?_
            refine lv_iload hx hb dX1_highestCeilingFor_43 (lv_at hl 0 rfl) ?_
            refine lv_iadd hx hb dX1_highestCeilingFor_45 ?_
            refine lv_istore (lv' := [(4, .int (r + (nI st))), (5, .int (nI st)), (0, .ref g), (1, .int (nI kf)), (2, .int (nI kt)), (3, .int w0)]) hx hb dX1_highestCeilingFor_46 hl (by decide) rfl (fun ls hl => ?_)
            refine lv_iload hx hb dX1_highestCeilingFor_48 (lv_at hl 1 rfl) ?_
            refine lv_iconst (v := 2) hx hb dX1_highestCeilingFor_50 (by decide) ?_
            refine lv_idiv hx hb dX1_highestCeilingFor_51 (by decide) ?_
            refine pq_top (nI (st / 2)) (pk_div (d := 2) (by omega) (by decide) (by decide)) ?_
            refine lv_istore (lv' := [(5, .int (nI (st / 2))), (4, .int (r + (nI st))), (0, .ref g), (1, .int (nI kf)), (2, .int (nI kt)), (3, .int w0)]) hx hb dX1_highestCeilingFor_52 hl (by decide) rfl (fun ls hl => ?_)
            refine lv_goto (tgt := 21) hx hb dX1_highestCeilingFor_54 (by decide) ?_
            exact ihLP (j - 1) (st / 2) (r + (nI st)) (by have := pw_j hst k_2; omega) (pw_h hst k_2) (by omega) (by rw [← hrr, gHi_s hst k_2 r, if_pos (i_le c_3)]) H locs ls hP hD hS (lv_sub hl [0, 1, 2, 3, 4, 5] rfl)
        · refine lv_if_le (tgt := 57) hx hb dX1_highestCeilingFor_23 (by decide) (fun _ => ?_) (fun c9 => absurd ((nI_le (a := st) (b := 0) k_2 (by omega))) c9)
          refine lv_iload hx hb dX1_highestCeilingFor_57 (lv_at hl 1 rfl) ?_
          exact pq_iret hQ hx hb hr hlocks hK hS hP hD dX1_highestCeilingFor_59 (by omega) (by omega) (⟨by rw [if_neg (i_nlt c_1), ← hrr, show j = 0 from pw_z hst (by omega)] <;> rfl, rfl⟩)
    exact LP _ 10 512 0 (Nat.lt_succ_self _) (by decide) (by decide) rfl H locs ls hP hD hS (lv_sub hl [0, 1, 2, 3, 4, 5] rfl)
  · refine lv_iconst (v := (-1)) hx hb dX1_highestCeilingFor_11 (by decide) ?_
    exact pq_iret hQ hx hb hr hlocks hK hS hP hD dX1_highestCeilingFor_12 (by omega) (by omega) (⟨by rw [if_pos (i_lt c_1)], rfl⟩)
end
section
/-! what a method of the class itself may need beside its own words: the nest's links -/
def pq_nest : List Cond := [.methodLinkNest RX2 11 yX0_init "PressedPlains", .fieldLinkNest RX2 98 "PressedPlains$Book" "first" "[I" "PressedPlains", .fieldLinkNest RX2 101 "PressedPlains$Book" "last" "[I" "PressedPlains", .fieldLinkNest RX2 104 "PressedPlains$Book" "greatest" "[I" "PressedPlains", .fieldLinkNest RX2 107 "PressedPlains$Book" "second" "[I" "PressedPlains", .fieldLinkNest RX2 110 "PressedPlains$Book" "many" "[I" "PressedPlains", .fieldLinkNest RX2 113 "PressedPlains$Book" "sum" "[I" "PressedPlains", .fieldLinkNest RX2 120 "PressedPlains$Book" "latestVisits" "I" "PressedPlains", .fieldLinkNest RX2 123 "PressedPlains$Book" "totalVisits" "I" "PressedPlains", .fieldLinkNest RX2 129 "PressedPlains$Book" "calls" "I" "PressedPlains", .methodLinkNest RX2 18 yX1_init "PressedPlains", .fieldLinkNest RX2 40 "PressedPlains$Ground" "heights" "[I" "PressedPlains", .fieldLinkNest RX2 87 "PressedPlains$Ground" "ceilings" "[I" "PressedPlains", .fieldLinkNest RX2 92 "PressedPlains$Ground" "count" "I" "PressedPlains", .fieldLinkNest RX2 126 "PressedPlains$Ground" "given" "I" "PressedPlains"]
def pq_Ev (_ : Nat → Prop) (U : State) : Prop := ∀ w ∈ pq_nest, va_Nw w U
theorem pq_Ev.warm {A A1 : Nat → Prop} {s U : State} (hW : s.WarmedH U.vm) (h : pq_Ev A s) : pq_Ev A1 U := List.forall_mem_cons.mpr ⟨va_Nw.warmM hW (h _ (List.mem_of_getElem? (i := 0) rfl)), List.forall_mem_cons.mpr ⟨va_Nw.warmF hW (h _ (List.mem_of_getElem? (i := 1) rfl)), List.forall_mem_cons.mpr ⟨va_Nw.warmF hW (h _ (List.mem_of_getElem? (i := 2) rfl)), List.forall_mem_cons.mpr ⟨va_Nw.warmF hW (h _ (List.mem_of_getElem? (i := 3) rfl)), List.forall_mem_cons.mpr ⟨va_Nw.warmF hW (h _ (List.mem_of_getElem? (i := 4) rfl)), List.forall_mem_cons.mpr ⟨va_Nw.warmF hW (h _ (List.mem_of_getElem? (i := 5) rfl)), List.forall_mem_cons.mpr ⟨va_Nw.warmF hW (h _ (List.mem_of_getElem? (i := 6) rfl)), List.forall_mem_cons.mpr ⟨va_Nw.warmF hW (h _ (List.mem_of_getElem? (i := 7) rfl)), List.forall_mem_cons.mpr ⟨va_Nw.warmF hW (h _ (List.mem_of_getElem? (i := 8) rfl)), List.forall_mem_cons.mpr ⟨va_Nw.warmF hW (h _ (List.mem_of_getElem? (i := 9) rfl)), List.forall_mem_cons.mpr ⟨va_Nw.warmM hW (h _ (List.mem_of_getElem? (i := 10) rfl)), List.forall_mem_cons.mpr ⟨va_Nw.warmF hW (h _ (List.mem_of_getElem? (i := 11) rfl)), List.forall_mem_cons.mpr ⟨va_Nw.warmF hW (h _ (List.mem_of_getElem? (i := 12) rfl)), List.forall_mem_cons.mpr ⟨va_Nw.warmF hW (h _ (List.mem_of_getElem? (i := 13) rfl)), List.forall_mem_cons.mpr ⟨va_Nw.warmF hW (h _ (List.mem_of_getElem? (i := 14) rfl)), fun _ h => nomatch h⟩⟩⟩⟩⟩⟩⟩⟩⟩⟩⟩⟩⟩⟩⟩
theorem pq_blE : pq_Bl pq_Ev := fun A U g mk a h => pq_Ev.warm (A := A) (U := U.calling g mk a) (State.WarmedH.refl U) h
theorem pq_Ev.call {A : Nat → Prop} {s : State} {H : Heap} {locs : List Loc} {w wc : va_W} (h : pq_Ev A s) (_hD : va_D A w) (_hS : va_S A s.heap H locs) (_hA : ∀ q, s.heap.size ≤ q → A q) (isC : List Nat) (_hC : isC.map (fun i => w[i]?) = wc.map some) : ∀ U : State, U.heap = H → s.WarmedH U.vm → pq_Ev (va_A wc H.size) U := fun _ _ hW => pq_Ev.warm hW h
section PX
variable {p : Program} {l : Launch} {e : Env} {R : Room} {s : State} {m : MethodId} {args : Array Value} {below : List Frame} {meth : Method} {c : Code} {H : Heap} {locs : List Loc} {cells slots : Nat} {Q : State → Prop}
variable {y : MethodName} {ws ws' : List Cond} {fr lo mc ms maxL : Nat} {D : va_G} {tys tys0 : List (ClassId × FieldType)} {E : (Nat → Prop) → State → Prop} {wc wr w : va_W} {av : List Value} {post : Option Value → va_W → Prop} {px : String → va_W → Prop} {cc bytes : ByteArray} {ret : Option FieldType} {A : Nat → Prop} {ls : Array Slot} {pc : Nat} {st0 rest : List Value}
theorem pq_callIN {own host : String} {index n nL : Nat} {Ts : List Cond} {b : Nat} (isC isR : List Nat) (As : List Value) (hM : pq_M l y ws fr lo mc ms D tys E wc (.ref b :: As) post)
    (S : CallFix p m c cc nL s args Ts own) (cw : va_CN R s args own index y host bytes maxL none ws (pq_R fr lo mc ms) mc ms n ∧ y.name = "<init>" ∧ (Cond.instanceMethod y).before args s = true)
    (hEb : pq_Bl E) (hE : ∀ U : State, U.heap = H → s.WarmedH U.vm → E (va_A wc H.size) U) (hK : va_K D vwCl tys s) (hP : va_P D vwCl w H) (hD : va_D A w) (hS : va_S A s.heap H locs) (hA : ∀ q, s.heap.size ≤ q → A q)
    (hC : isC.map (fun i => w[i]?) = wc.map some) (hnC : va_nd isC = true) (hR : isR.map (fun i => w[i]?) = wr.map some) (hn : va_nd isR = true) (hdis : ∀ i ∈ isR, i ∉ isC)
    (hlen : As.length = n) (hsize : ls.size = nL) (hst : st0 = As.reverse ++ .ref b :: rest) (hW : (rest.map fun v => v.category).sum ≤ 8) (hdg : decode cc pc = .ok (.invokespecial index, 3)) (hf : cells + mc ≤ R.cells ∧ slots + ms ≤ R.slots)
    (kk : ∀ (v : Option Value) (w1 : va_W) (H1 : Heap) (locs1 : List Loc), post v w1 → va_P D vwCl (wr ++ w1) H1 → va_D A (wr ++ w1) → va_S A s.heap H1 locs1 → H.size ≤ H1.size → W p l e R s m args below meth c H1 locs1 (cells + mc) (slots + ms) Q (F0 m (pc + 3) ls (v.toList ++ rest))) :
    W p l e R s m args below meth c H locs cells slots Q (F0 m pc ls st0) :=
  pq_back (va_runIN (As := As) (rest := rest) S (hM H.size) cw (pq_pre (av := .ref b :: As) hEb hE hK hP hD hC hnC) rfl hlen hsize hst (lv_room hW) hdg hf) rfl hP hD hS hA hC hR hn hdis kk
theorem pq_same {cI cA : ClassId} (h : va_K D vwCl ([(cI, .int)] ++ [(cA, .int)]) s) : cA = cI := by
  have h1 := (h.2 0 _ rfl).2
  have h2 := (h.2 1 _ rfl).2
  exact Option.some.inj (h2.symm.trans h1)
end PX
end
section
set_option maxHeartbeats 4000000 in
set_option maxRecDepth 100000 in
theorem mX0_init (l : Launch) (D : va_G) (cI : ClassId) (h : Nat) : pq_M l yX0_init wsX0_init 1 30 6 768 D [(cI, .int)] pq_0 [(h, .inr (0, [.null, .null, .null, .null, .null, .null, .int 0, .int 0, .int 0]))] [.ref h] (fun v w1 => ∃ (a0 a1 a2 a3 a4 a5 : Nat), v = none ∧ w1 = bkW h a0 a1 a2 a3 a4 a5 cI (fun _ => 0) (fun _ => 0) ((fun _ => 0), (fun _ => 0), (fun _ => 0), (fun _ => 0), 0, 0, 0)) := by
  refine pq_enter (cc := cX0_init) (maxL := 1) (ret := none) (by decide) rfl (Nat.le_of_ble_eq_true rfl) ?_
  intro p ev s m args below meth cd A ls Q H locs hx hb hr hml hts hown hlocks hnm hK hP hD hS hA hE hl hQ
  have hl : lv_has ls 1 [(0, .ref h)] := hl
  have hP : va_P D vwCl [(h, .inr (0, [.null, .null, .null, .null, .null, .null, .int 0, .int 0, .int 0]))] H := hP
  have hD : va_D A [(h, .inr (0, [.null, .null, .null, .null, .null, .null, .int 0, .int 0, .int 0]))] := hD
  have hin : meth.name = "<init>" := hnm
  have hoi1 := hts (.methodLink RX0 3 objectInit) (by decide +kernel)
  have hoi2 := hts (.instanceMethod objectInit) (by decide +kernel)
  have hoi3 := hts (.code objectInit ⟨#[0xb1]⟩ 1 none) (by decide +kernel)
  have hin_X0 : ∀ w ∈ wsX00, w ∈ wsX0_init := by decide +kernel
  have hf_PressedPlains_Book_11 := hts (.fieldLink RX0 11 "PressedPlains$Book" "first" "[I") (by decide +kernel)
  have hf_PressedPlains_Book_15 := hts (.fieldLink RX0 15 "PressedPlains$Book" "last" "[I") (by decide +kernel)
  have hf_PressedPlains_Book_18 := hts (.fieldLink RX0 18 "PressedPlains$Book" "greatest" "[I") (by decide +kernel)
  have hf_PressedPlains_Book_21 := hts (.fieldLink RX0 21 "PressedPlains$Book" "second" "[I") (by decide +kernel)
  have hf_PressedPlains_Book_24 := hts (.fieldLink RX0 24 "PressedPlains$Book" "many" "[I") (by decide +kernel)
  have hf_PressedPlains_Book_27 := hts (.fieldLink RX0 27 "PressedPlains$Book" "sum" "[I") (by decide +kernel)
  refine lv_aload_n hx hb dX0_init_0 rfl (lv_at hl 0 rfl) ?_
  refine W.objInit hx hb hown hoi1 hoi2 hoi3 rfl (by rw [hml]; exact hl.1) rfl dX0_init_1 (Nat.le_of_ble_eq_true rfl) (Nat.le_of_ble_eq_true rfl) ?_
  refine W.eq (g2 := F0 m 4 ls []) rfl ?_
  refine lv_aload_n hx hb dX0_init_4 rfl (lv_at hl 0 rfl) ?_
  refine lv_sipush (v := 128) hx hb dX0_init_5 (by decide) ?_
  refine va_newa (atype := .int) (ty := .int) (a0 := (128, .inl (fun _ => 0))) (N' := 128) hx hb (hts (.arrayClass .int) (by decide +kernel)) rfl hK hP hD hS hA (fun _ => rfl) (by decide) rfl (Nat.le_of_ble_eq_true rfl) (by dsimp only [pq_R]; omega) (by dsimp only [pq_R]; omega) dX0_init_8 (fun q1 cA H hK9 hP hD hS => ?_)
  obtain rfl : cI = cA := (pq_same hK9).symm
  have hP : va_P D vwCl [(h, .inr (0, [.null, .null, .null, .null, .null, .null, .int 0, .int 0, .int 0])), (q1, .inl (cI, 128, .inl (fun _ => 0)))] H := hP
  have hD : va_D A [(h, .inr (0, [.null, .null, .null, .null, .null, .null, .int 0, .int 0, .int 0])), (q1, .inl (cI, 128, .inl (fun _ => 0)))] := hD
  refine W.widen (k := 1) (n := 128) (by omega) (by omega) ?_
  refine W.eq (g2 := F0 m 10 ls [.ref q1, .ref h]) rfl ?_
  refine va_putF (D := D) (ci := 0) (v := .ref q1) (ty := .array .int) (C := RX0) (T := TX0) (N := 9) hx hb hts hin_X0 tyX0 tyX0_ok nmX0 hown hK hP hD hS 0 rfl rfl 0 (by decide) hf_PressedPlains_Book_11 (fun _ h9 => h9) rfl hin rfl (by decide +kernel) rfl rfl (Nat.le_of_ble_eq_true rfl) dX0_init_10 (fun H locs hP hD hS => ?_)
  have hP : va_P D vwCl [(h, .inr (0, [.ref q1, .null, .null, .null, .null, .null, .int 0, .int 0, .int 0])), (q1, .inl (cI, 128, .inl (fun _ => 0)))] H := hP
  have hD : va_D A [(h, .inr (0, [.ref q1, .null, .null, .null, .null, .null, .int 0, .int 0, .int 0])), (q1, .inl (cI, 128, .inl (fun _ => 0)))] := hD
  refine lv_aload_n hx hb dX0_init_13 rfl (lv_at hl 0 rfl) ?_
  refine lv_sipush (v := 128) hx hb dX0_init_14 (by decide) ?_
  refine va_newa (atype := .int) (ty := .int) (a0 := (128, .inl (fun _ => 0))) (N' := 128) hx hb (hts (.arrayClass .int) (by decide +kernel)) rfl hK hP hD hS hA (fun _ => rfl) (by decide) rfl (Nat.le_of_ble_eq_true rfl) (by dsimp only [pq_R]; omega) (by dsimp only [pq_R]; omega) dX0_init_17 (fun q2 cA H hK9 hP hD hS => ?_)
  obtain rfl : cI = cA := (pq_same hK9).symm
  have hP : va_P D vwCl [(h, .inr (0, [.ref q1, .null, .null, .null, .null, .null, .int 0, .int 0, .int 0])), (q1, .inl (cI, 128, .inl (fun _ => 0))), (q2, .inl (cI, 128, .inl (fun _ => 0)))] H := hP
  have hD : va_D A [(h, .inr (0, [.ref q1, .null, .null, .null, .null, .null, .int 0, .int 0, .int 0])), (q1, .inl (cI, 128, .inl (fun _ => 0))), (q2, .inl (cI, 128, .inl (fun _ => 0)))] := hD
  refine W.widen (k := 2) (n := 256) (by omega) (by omega) ?_
  refine W.eq (g2 := F0 m 19 ls [.ref q2, .ref h]) rfl ?_
  refine va_putF (D := D) (ci := 0) (v := .ref q2) (ty := .array .int) (C := RX0) (T := TX0) (N := 9) hx hb hts hin_X0 tyX0 tyX0_ok nmX0 hown hK hP hD hS 0 rfl rfl 1 (by decide) hf_PressedPlains_Book_15 (fun _ h9 => h9) rfl hin rfl (by decide +kernel) rfl rfl (Nat.le_of_ble_eq_true rfl) dX0_init_19 (fun H locs hP hD hS => ?_)
  have hP : va_P D vwCl [(h, .inr (0, [.ref q1, .ref q2, .null, .null, .null, .null, .int 0, .int 0, .int 0])), (q1, .inl (cI, 128, .inl (fun _ => 0))), (q2, .inl (cI, 128, .inl (fun _ => 0)))] H := hP
  have hD : va_D A [(h, .inr (0, [.ref q1, .ref q2, .null, .null, .null, .null, .int 0, .int 0, .int 0])), (q1, .inl (cI, 128, .inl (fun _ => 0))), (q2, .inl (cI, 128, .inl (fun _ => 0)))] := hD
  refine lv_aload_n hx hb dX0_init_22 rfl (lv_at hl 0 rfl) ?_
  refine lv_sipush (v := 128) hx hb dX0_init_23 (by decide) ?_
  refine va_newa (atype := .int) (ty := .int) (a0 := (128, .inl (fun _ => 0))) (N' := 128) hx hb (hts (.arrayClass .int) (by decide +kernel)) rfl hK hP hD hS hA (fun _ => rfl) (by decide) rfl (Nat.le_of_ble_eq_true rfl) (by dsimp only [pq_R]; omega) (by dsimp only [pq_R]; omega) dX0_init_26 (fun q3 cA H hK9 hP hD hS => ?_)
  obtain rfl : cI = cA := (pq_same hK9).symm
  have hP : va_P D vwCl [(h, .inr (0, [.ref q1, .ref q2, .null, .null, .null, .null, .int 0, .int 0, .int 0])), (q1, .inl (cI, 128, .inl (fun _ => 0))), (q2, .inl (cI, 128, .inl (fun _ => 0))), (q3, .inl (cI, 128, .inl (fun _ => 0)))] H := hP
  have hD : va_D A [(h, .inr (0, [.ref q1, .ref q2, .null, .null, .null, .null, .int 0, .int 0, .int 0])), (q1, .inl (cI, 128, .inl (fun _ => 0))), (q2, .inl (cI, 128, .inl (fun _ => 0))), (q3, .inl (cI, 128, .inl (fun _ => 0)))] := hD
  refine W.widen (k := 3) (n := 384) (by omega) (by omega) ?_
  refine W.eq (g2 := F0 m 28 ls [.ref q3, .ref h]) rfl ?_
  refine va_putF (D := D) (ci := 0) (v := .ref q3) (ty := .array .int) (C := RX0) (T := TX0) (N := 9) hx hb hts hin_X0 tyX0 tyX0_ok nmX0 hown hK hP hD hS 0 rfl rfl 2 (by decide) hf_PressedPlains_Book_18 (fun _ h9 => h9) rfl hin rfl (by decide +kernel) rfl rfl (Nat.le_of_ble_eq_true rfl) dX0_init_28 (fun H locs hP hD hS => ?_)
  have hP : va_P D vwCl [(h, .inr (0, [.ref q1, .ref q2, .ref q3, .null, .null, .null, .int 0, .int 0, .int 0])), (q1, .inl (cI, 128, .inl (fun _ => 0))), (q2, .inl (cI, 128, .inl (fun _ => 0))), (q3, .inl (cI, 128, .inl (fun _ => 0)))] H := hP
  have hD : va_D A [(h, .inr (0, [.ref q1, .ref q2, .ref q3, .null, .null, .null, .int 0, .int 0, .int 0])), (q1, .inl (cI, 128, .inl (fun _ => 0))), (q2, .inl (cI, 128, .inl (fun _ => 0))), (q3, .inl (cI, 128, .inl (fun _ => 0)))] := hD
  refine lv_aload_n hx hb dX0_init_31 rfl (lv_at hl 0 rfl) ?_
  refine lv_sipush (v := 128) hx hb dX0_init_32 (by decide) ?_
  refine va_newa (atype := .int) (ty := .int) (a0 := (128, .inl (fun _ => 0))) (N' := 128) hx hb (hts (.arrayClass .int) (by decide +kernel)) rfl hK hP hD hS hA (fun _ => rfl) (by decide) rfl (Nat.le_of_ble_eq_true rfl) (by dsimp only [pq_R]; omega) (by dsimp only [pq_R]; omega) dX0_init_35 (fun q4 cA H hK9 hP hD hS => ?_)
  obtain rfl : cI = cA := (pq_same hK9).symm
  have hP : va_P D vwCl [(h, .inr (0, [.ref q1, .ref q2, .ref q3, .null, .null, .null, .int 0, .int 0, .int 0])), (q1, .inl (cI, 128, .inl (fun _ => 0))), (q2, .inl (cI, 128, .inl (fun _ => 0))), (q3, .inl (cI, 128, .inl (fun _ => 0))), (q4, .inl (cI, 128, .inl (fun _ => 0)))] H := hP
  have hD : va_D A [(h, .inr (0, [.ref q1, .ref q2, .ref q3, .null, .null, .null, .int 0, .int 0, .int 0])), (q1, .inl (cI, 128, .inl (fun _ => 0))), (q2, .inl (cI, 128, .inl (fun _ => 0))), (q3, .inl (cI, 128, .inl (fun _ => 0))), (q4, .inl (cI, 128, .inl (fun _ => 0)))] := hD
  refine W.widen (k := 4) (n := 512) (by omega) (by omega) ?_
  refine W.eq (g2 := F0 m 37 ls [.ref q4, .ref h]) rfl ?_
  refine va_putF (D := D) (ci := 0) (v := .ref q4) (ty := .array .int) (C := RX0) (T := TX0) (N := 9) hx hb hts hin_X0 tyX0 tyX0_ok nmX0 hown hK hP hD hS 0 rfl rfl 3 (by decide) hf_PressedPlains_Book_21 (fun _ h9 => h9) rfl hin rfl (by decide +kernel) rfl rfl (Nat.le_of_ble_eq_true rfl) dX0_init_37 (fun H locs hP hD hS => ?_)
  have hP : va_P D vwCl [(h, .inr (0, [.ref q1, .ref q2, .ref q3, .ref q4, .null, .null, .int 0, .int 0, .int 0])), (q1, .inl (cI, 128, .inl (fun _ => 0))), (q2, .inl (cI, 128, .inl (fun _ => 0))), (q3, .inl (cI, 128, .inl (fun _ => 0))), (q4, .inl (cI, 128, .inl (fun _ => 0)))] H := hP
  have hD : va_D A [(h, .inr (0, [.ref q1, .ref q2, .ref q3, .ref q4, .null, .null, .int 0, .int 0, .int 0])), (q1, .inl (cI, 128, .inl (fun _ => 0))), (q2, .inl (cI, 128, .inl (fun _ => 0))), (q3, .inl (cI, 128, .inl (fun _ => 0))), (q4, .inl (cI, 128, .inl (fun _ => 0)))] := hD
  refine lv_aload_n hx hb dX0_init_40 rfl (lv_at hl 0 rfl) ?_
  refine lv_sipush (v := 128) hx hb dX0_init_41 (by decide) ?_
  refine va_newa (atype := .int) (ty := .int) (a0 := (128, .inl (fun _ => 0))) (N' := 128) hx hb (hts (.arrayClass .int) (by decide +kernel)) rfl hK hP hD hS hA (fun _ => rfl) (by decide) rfl (Nat.le_of_ble_eq_true rfl) (by dsimp only [pq_R]; omega) (by dsimp only [pq_R]; omega) dX0_init_44 (fun q5 cA H hK9 hP hD hS => ?_)
  obtain rfl : cI = cA := (pq_same hK9).symm
  have hP : va_P D vwCl [(h, .inr (0, [.ref q1, .ref q2, .ref q3, .ref q4, .null, .null, .int 0, .int 0, .int 0])), (q1, .inl (cI, 128, .inl (fun _ => 0))), (q2, .inl (cI, 128, .inl (fun _ => 0))), (q3, .inl (cI, 128, .inl (fun _ => 0))), (q4, .inl (cI, 128, .inl (fun _ => 0))), (q5, .inl (cI, 128, .inl (fun _ => 0)))] H := hP
  have hD : va_D A [(h, .inr (0, [.ref q1, .ref q2, .ref q3, .ref q4, .null, .null, .int 0, .int 0, .int 0])), (q1, .inl (cI, 128, .inl (fun _ => 0))), (q2, .inl (cI, 128, .inl (fun _ => 0))), (q3, .inl (cI, 128, .inl (fun _ => 0))), (q4, .inl (cI, 128, .inl (fun _ => 0))), (q5, .inl (cI, 128, .inl (fun _ => 0)))] := hD
  refine W.widen (k := 5) (n := 640) (by omega) (by omega) ?_
  refine W.eq (g2 := F0 m 46 ls [.ref q5, .ref h]) rfl ?_
  refine va_putF (D := D) (ci := 0) (v := .ref q5) (ty := .array .int) (C := RX0) (T := TX0) (N := 9) hx hb hts hin_X0 tyX0 tyX0_ok nmX0 hown hK hP hD hS 0 rfl rfl 4 (by decide) hf_PressedPlains_Book_24 (fun _ h9 => h9) rfl hin rfl (by decide +kernel) rfl rfl (Nat.le_of_ble_eq_true rfl) dX0_init_46 (fun H locs hP hD hS => ?_)
  have hP : va_P D vwCl [(h, .inr (0, [.ref q1, .ref q2, .ref q3, .ref q4, .ref q5, .null, .int 0, .int 0, .int 0])), (q1, .inl (cI, 128, .inl (fun _ => 0))), (q2, .inl (cI, 128, .inl (fun _ => 0))), (q3, .inl (cI, 128, .inl (fun _ => 0))), (q4, .inl (cI, 128, .inl (fun _ => 0))), (q5, .inl (cI, 128, .inl (fun _ => 0)))] H := hP
  have hD : va_D A [(h, .inr (0, [.ref q1, .ref q2, .ref q3, .ref q4, .ref q5, .null, .int 0, .int 0, .int 0])), (q1, .inl (cI, 128, .inl (fun _ => 0))), (q2, .inl (cI, 128, .inl (fun _ => 0))), (q3, .inl (cI, 128, .inl (fun _ => 0))), (q4, .inl (cI, 128, .inl (fun _ => 0))), (q5, .inl (cI, 128, .inl (fun _ => 0)))] := hD
  refine lv_aload_n hx hb dX0_init_49 rfl (lv_at hl 0 rfl) ?_
  refine lv_sipush (v := 128) hx hb dX0_init_50 (by decide) ?_
  refine va_newa (atype := .int) (ty := .int) (a0 := (128, .inl (fun _ => 0))) (N' := 128) hx hb (hts (.arrayClass .int) (by decide +kernel)) rfl hK hP hD hS hA (fun _ => rfl) (by decide) rfl (Nat.le_of_ble_eq_true rfl) (by dsimp only [pq_R]; omega) (by dsimp only [pq_R]; omega) dX0_init_53 (fun q6 cA H hK9 hP hD hS => ?_)
  obtain rfl : cI = cA := (pq_same hK9).symm
  have hP : va_P D vwCl [(h, .inr (0, [.ref q1, .ref q2, .ref q3, .ref q4, .ref q5, .null, .int 0, .int 0, .int 0])), (q1, .inl (cI, 128, .inl (fun _ => 0))), (q2, .inl (cI, 128, .inl (fun _ => 0))), (q3, .inl (cI, 128, .inl (fun _ => 0))), (q4, .inl (cI, 128, .inl (fun _ => 0))), (q5, .inl (cI, 128, .inl (fun _ => 0))), (q6, .inl (cI, 128, .inl (fun _ => 0)))] H := hP
  have hD : va_D A [(h, .inr (0, [.ref q1, .ref q2, .ref q3, .ref q4, .ref q5, .null, .int 0, .int 0, .int 0])), (q1, .inl (cI, 128, .inl (fun _ => 0))), (q2, .inl (cI, 128, .inl (fun _ => 0))), (q3, .inl (cI, 128, .inl (fun _ => 0))), (q4, .inl (cI, 128, .inl (fun _ => 0))), (q5, .inl (cI, 128, .inl (fun _ => 0))), (q6, .inl (cI, 128, .inl (fun _ => 0)))] := hD
  refine W.widen (k := 6) (n := 768) (by omega) (by omega) ?_
  refine W.eq (g2 := F0 m 55 ls [.ref q6, .ref h]) rfl ?_
  refine va_putF (D := D) (ci := 0) (v := .ref q6) (ty := .array .int) (C := RX0) (T := TX0) (N := 9) hx hb hts hin_X0 tyX0 tyX0_ok nmX0 hown hK hP hD hS 0 rfl rfl 5 (by decide) hf_PressedPlains_Book_27 (fun _ h9 => h9) rfl hin rfl (by decide +kernel) rfl rfl (Nat.le_of_ble_eq_true rfl) dX0_init_55 (fun H locs hP hD hS => ?_)
  have hP : va_P D vwCl [(h, .inr (0, [.ref q1, .ref q2, .ref q3, .ref q4, .ref q5, .ref q6, .int 0, .int 0, .int 0])), (q1, .inl (cI, 128, .inl (fun _ => 0))), (q2, .inl (cI, 128, .inl (fun _ => 0))), (q3, .inl (cI, 128, .inl (fun _ => 0))), (q4, .inl (cI, 128, .inl (fun _ => 0))), (q5, .inl (cI, 128, .inl (fun _ => 0))), (q6, .inl (cI, 128, .inl (fun _ => 0)))] H := hP
  have hD : va_D A [(h, .inr (0, [.ref q1, .ref q2, .ref q3, .ref q4, .ref q5, .ref q6, .int 0, .int 0, .int 0])), (q1, .inl (cI, 128, .inl (fun _ => 0))), (q2, .inl (cI, 128, .inl (fun _ => 0))), (q3, .inl (cI, 128, .inl (fun _ => 0))), (q4, .inl (cI, 128, .inl (fun _ => 0))), (q5, .inl (cI, 128, .inl (fun _ => 0))), (q6, .inl (cI, 128, .inl (fun _ => 0)))] := hD
  exact pq_vret hQ hx hb hr hlocks hK hS hP hD dX0_init_58 (by omega) (by omega) (⟨q1, q2, q3, q4, q5, q6, rfl, rfl⟩)

set_option maxHeartbeats 4000000 in
set_option maxRecDepth 100000 in
theorem mX1_init (l : Launch) (D : va_G) (cI : ClassId) (g : Nat) : pq_M l yX1_init wsX1_init 1 30 2 128 D [(cI, .int)] pq_0 [(g, .inr (1, [.null, .null, .int 0, .int 0]))] [.ref g] (fun v w1 => ∃ (b0 b1 : Nat), v = none ∧ w1 = grW g b0 b1 cI ((fun _ => 0), (fun _ => 0), 0, 0)) := by
  refine pq_enter (cc := cX1_init) (maxL := 1) (ret := none) (by decide) rfl (Nat.le_of_ble_eq_true rfl) ?_
  intro p ev s m args below meth cd A ls Q H locs hx hb hr hml hts hown hlocks hnm hK hP hD hS hA hE hl hQ
  have hl : lv_has ls 1 [(0, .ref g)] := hl
  have hP : va_P D vwCl [(g, .inr (1, [.null, .null, .int 0, .int 0]))] H := hP
  have hD : va_D A [(g, .inr (1, [.null, .null, .int 0, .int 0]))] := hD
  have hin : meth.name = "<init>" := hnm
  have hoi1 := hts (.methodLink RX1 3 objectInit) (by decide +kernel)
  have hoi2 := hts (.instanceMethod objectInit) (by decide +kernel)
  have hoi3 := hts (.code objectInit ⟨#[0xb1]⟩ 1 none) (by decide +kernel)
  have hin_X1 : ∀ w ∈ wsX10, w ∈ wsX1_init := by decide +kernel
  have hf_PressedPlains_Ground_9 := hts (.fieldLink RX1 9 "PressedPlains$Ground" "heights" "[I") (by decide +kernel)
  have hf_PressedPlains_Ground_15 := hts (.fieldLink RX1 15 "PressedPlains$Ground" "ceilings" "[I") (by decide +kernel)
  refine lv_aload_n hx hb dX1_init_0 rfl (lv_at hl 0 rfl) ?_
  refine W.objInit hx hb hown hoi1 hoi2 hoi3 rfl (by rw [hml]; exact hl.1) rfl dX1_init_1 (Nat.le_of_ble_eq_true rfl) (Nat.le_of_ble_eq_true rfl) ?_
  refine W.eq (g2 := F0 m 4 ls []) rfl ?_
  refine lv_aload_n hx hb dX1_init_4 rfl (lv_at hl 0 rfl) ?_
  refine lv_bipush (v := 64) hx hb dX1_init_5 (by decide) ?_
  refine va_newa (atype := .int) (ty := .int) (a0 := (64, .inl (fun _ => 0))) (N' := 64) hx hb (hts (.arrayClass .int) (by decide +kernel)) rfl hK hP hD hS hA (fun _ => rfl) (by decide) rfl (Nat.le_of_ble_eq_true rfl) (by dsimp only [pq_R]; omega) (by dsimp only [pq_R]; omega) dX1_init_7 (fun q1 cA H hK9 hP hD hS => ?_)
  obtain rfl : cI = cA := (pq_same hK9).symm
  have hP : va_P D vwCl [(g, .inr (1, [.null, .null, .int 0, .int 0])), (q1, .inl (cI, 64, .inl (fun _ => 0)))] H := hP
  have hD : va_D A [(g, .inr (1, [.null, .null, .int 0, .int 0])), (q1, .inl (cI, 64, .inl (fun _ => 0)))] := hD
  refine W.widen (k := 1) (n := 64) (by omega) (by omega) ?_
  refine W.eq (g2 := F0 m 9 ls [.ref q1, .ref g]) rfl ?_
  refine va_putF (D := D) (ci := 1) (v := .ref q1) (ty := .array .int) (C := RX1) (T := TX1) (N := 4) hx hb hts hin_X1 tyX1 tyX1_ok nmX1 hown hK hP hD hS 0 rfl rfl 0 (by decide) hf_PressedPlains_Ground_9 (fun _ h9 => h9) rfl hin rfl (by decide +kernel) rfl rfl (Nat.le_of_ble_eq_true rfl) dX1_init_9 (fun H locs hP hD hS => ?_)
  have hP : va_P D vwCl [(g, .inr (1, [.ref q1, .null, .int 0, .int 0])), (q1, .inl (cI, 64, .inl (fun _ => 0)))] H := hP
  have hD : va_D A [(g, .inr (1, [.ref q1, .null, .int 0, .int 0])), (q1, .inl (cI, 64, .inl (fun _ => 0)))] := hD
  refine lv_aload_n hx hb dX1_init_12 rfl (lv_at hl 0 rfl) ?_
  refine lv_bipush (v := 64) hx hb dX1_init_13 (by decide) ?_
  refine va_newa (atype := .int) (ty := .int) (a0 := (64, .inl (fun _ => 0))) (N' := 64) hx hb (hts (.arrayClass .int) (by decide +kernel)) rfl hK hP hD hS hA (fun _ => rfl) (by decide) rfl (Nat.le_of_ble_eq_true rfl) (by dsimp only [pq_R]; omega) (by dsimp only [pq_R]; omega) dX1_init_15 (fun q2 cA H hK9 hP hD hS => ?_)
  obtain rfl : cI = cA := (pq_same hK9).symm
  have hP : va_P D vwCl [(g, .inr (1, [.ref q1, .null, .int 0, .int 0])), (q1, .inl (cI, 64, .inl (fun _ => 0))), (q2, .inl (cI, 64, .inl (fun _ => 0)))] H := hP
  have hD : va_D A [(g, .inr (1, [.ref q1, .null, .int 0, .int 0])), (q1, .inl (cI, 64, .inl (fun _ => 0))), (q2, .inl (cI, 64, .inl (fun _ => 0)))] := hD
  refine W.widen (k := 2) (n := 128) (by omega) (by omega) ?_
  refine W.eq (g2 := F0 m 17 ls [.ref q2, .ref g]) rfl ?_
  refine va_putF (D := D) (ci := 1) (v := .ref q2) (ty := .array .int) (C := RX1) (T := TX1) (N := 4) hx hb hts hin_X1 tyX1 tyX1_ok nmX1 hown hK hP hD hS 0 rfl rfl 1 (by decide) hf_PressedPlains_Ground_15 (fun _ h9 => h9) rfl hin rfl (by decide +kernel) rfl rfl (Nat.le_of_ble_eq_true rfl) dX1_init_17 (fun H locs hP hD hS => ?_)
  have hP : va_P D vwCl [(g, .inr (1, [.ref q1, .ref q2, .int 0, .int 0])), (q1, .inl (cI, 64, .inl (fun _ => 0))), (q2, .inl (cI, 64, .inl (fun _ => 0)))] H := hP
  have hD : va_D A [(g, .inr (1, [.ref q1, .ref q2, .int 0, .int 0])), (q1, .inl (cI, 64, .inl (fun _ => 0))), (q2, .inl (cI, 64, .inl (fun _ => 0)))] := hD
  exact pq_vret hQ hx hb hr hlocks hK hS hP hD dX1_init_20 (by omega) (by omega) (⟨q1, q2, rfl, rfl⟩)
end
section
theorem zz_last : True := trivial
end
