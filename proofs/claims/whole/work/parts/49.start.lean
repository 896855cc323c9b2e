/-! from the law's entry to the head of its loop -/
theorem vk_of {own tx : String} {k : Nat} {args : Array Value} {s : State} (h1 : (Cond.stringRef own k tx).before args s = true) (h2 : (Cond.exactly (.string own k) "java/lang/String").before args s = true) : ∃ sa, vk_R own k tx sa s := by
  obtain ⟨a, c, cell, kk, e1, -⟩ := Cond.exactly_spec (first := s) (o := none) (idx := []) h2
  exact ⟨a, vk_R.of h1 e1⟩
set_option maxRecDepth 100000 in
theorem st_nest : ∀ w ∈ pq_nest, w ∈ lw_tbl := by decide +kernel
set_option maxRecDepth 100000 in
theorem st_nestT : ∀ w ∈ pq_nest, w.onTables = true := by decide +kernel
set_option maxRecDepth 100000 in
theorem st_bad : ∀ w ∈ pq_bad, w ∈ lw_tbl := by decide +kernel
set_option maxRecDepth 100000 in
theorem st_strs : ∀ q ∈ pq_strs, Cond.stringRef RX2 q.1 q.2 ∈ lw_tbl := by decide +kernel
set_option maxRecDepth 100000 in
theorem st_lay : (Cond.laysStatic "java/lang/Throwable" "UNASSIGNED_STACK" "[Ljava/lang/StackTraceElement;") ∈ lw_tbl ∧ (Cond.laysStatic "java/lang/Throwable" "SUPPRESSED_SENTINEL" "Ljava/util/List;") ∈ lw_tbl ∧ (Cond.initialized "java/lang/Throwable") ∈ lw_tbl := by decide +kernel
set_option maxHeartbeats 4000000 in
set_option maxRecDepth 100000 in
theorem st_E {s : State} {b : Nat} (hts0 : ∀ w ∈ lw_tbl, w.before #[Value.ref b] s = true) (hgv : (Jvm.Cond.and given_1 narrow_1).before #[Value.ref b] s = true) : pq_L (fun q : Nat => s.heap.size ≤ q) s := by
  have hgf := flat_of_before _ hgv
  have hnA : ∀ a : Nat, a < s.heap.size → ¬ (fun q : Nat => s.heap.size ≤ q) a := fun a h1 h2 => absurd h1 (Nat.not_lt.mpr h2)
  refine ⟨⟨⟨fun w hw => va_Nw.of (st_nestT w hw) (hts0 w (st_nest w hw)), fun w hw => va_Nw.of (px_badT w hw) (hts0 w (st_bad w hw)), ?_⟩, ?_, ?_⟩, ?_, ?_, ?_, ?_, ?_⟩
  · exact List.forall_mem_cons.mpr ⟨vk_of (hts0 _ (st_strs _ (List.mem_of_getElem? (i := 0) rfl))) (hgf _ (by decide +kernel)), List.forall_mem_cons.mpr ⟨vk_of (hts0 _ (st_strs _ (List.mem_of_getElem? (i := 1) rfl))) (hgf _ (by decide +kernel)), List.forall_mem_cons.mpr ⟨vk_of (hts0 _ (st_strs _ (List.mem_of_getElem? (i := 2) rfl))) (hgf _ (by decide +kernel)), List.forall_mem_cons.mpr ⟨vk_of (hts0 _ (st_strs _ (List.mem_of_getElem? (i := 3) rfl))) (hgf _ (by decide +kernel)), List.forall_mem_cons.mpr ⟨vk_of (hts0 _ (st_strs _ (List.mem_of_getElem? (i := 4) rfl))) (hgf _ (by decide +kernel)), List.forall_mem_cons.mpr ⟨vk_of (hts0 _ (st_strs _ (List.mem_of_getElem? (i := 5) rfl))) (hgf _ (by decide +kernel)), List.forall_mem_cons.mpr ⟨vk_of (hts0 _ (st_strs _ (List.mem_of_getElem? (i := 6) rfl))) (hgf _ (by decide +kernel)), fun _ h => absurd h List.not_mem_nil⟩⟩⟩⟩⟩⟩⟩
  · exact vx_Zqof (hts0 _ st_lay.1) (hts0 _ st_lay.2.2) (hgf _ (by decide +kernel)) hnA
  · exact vx_Zqof (hts0 _ st_lay.2.1) (hts0 _ st_lay.2.2) (hgf _ (by decide +kernel)) hnA
  · exact va_Nc.of (hgf _ (by decide +kernel))
  · exact va_Nc.of (hgf _ (by decide +kernel))
  · exact va_Nc.of (hgf _ (by decide +kernel))
  · exact va_Nc.of (hgf _ (by decide +kernel))
  · exact va_Nc.of (hgf _ (by decide +kernel))
set_option maxHeartbeats 4000000 in
set_option maxRecDepth 100000 in
/-- YOUR PART: from the entry, for every script of at most 2048 ints, the law comes to its end with true -/
theorem whole_start {p : Program} {e : Env} {s : State} {m : MethodId} {below : List Frame} {meth : Method} {c : Code} (l : Launch) (hflags : l.flags = flags0) {b L : Nat} {xs : Nat → Int32} (hL : L ≤ 2048) (C0 : lw_At p s m meth c b L xs) : W p l e room_1 s m #[Value.ref b] below meth c s.heap [] 0 0 (lw_Z below #[Value.ref b] s) (entryFrame m ([Value.ref b] : List Value).toArray 9) := by
  obtain ⟨hx, hb, hr, hml, hown, hts0, hX, hbl, hlocks, hgv⟩ := id C0
  have hb : c.code = cL_law := hb
  have hown : s.vm.findClass RL = some m.cls := hown
  have hts : ∀ w ∈ wsL_law, w.before #[Value.ref b] s = true := fun w h => hts0 w (wsL_law_in w h)
  have hA : ∀ q : Nat, s.heap.size ≤ q → (fun q : Nat => s.heap.size ≤ q) q := fun _ h => h
  have hE := st_E hts0 hgv
  have hfl : l.stackTraces = false := by unfold Launch.stackTraces; rw [hflags]; decide +kernel
  obtain ⟨c0, iS0, hKn0⟩ := u_known (C := RX0) (T := TX0) (N := 9) (n := 9) hts inlX0 (hts0 (.instantiable RX0 9) (by decide +kernel))
  obtain ⟨c1, iS1, hKn1⟩ := u_known (C := RX1) (T := TX1) (N := 4) (n := 4) hts inlX1 (hts0 (.instantiable RX1 4) (by decide +kernel))
  obtain ⟨c2, iS2, hKn2⟩ := u_known (C := RX2) (T := TX2) (N := 3) (n := 3) hts inlX2 (hts0 (.instantiable RX2 3) (by decide +kernel))
  obtain ⟨c3, iS3, hKn3⟩ := u_known (C := RX3) (T := TX3) (N := 18) (n := 18) hts inlX3 (hts0 (.instantiable RX3 18) (by decide +kernel))
  obtain ⟨D, hKc⟩ : ∃ (D : va_G), ∀ (k : Nat) (q : vw_C), vwCl[k]? = some q → u_Kn s q.1 q.2.1 q.2.2 (D.1 k) (D.2 k) := by
    refine ⟨(fun k => if k = 0 then c0 else if k = 1 then c1 else if k = 2 then c2 else c3, fun k => if k = 0 then iS0 else if k = 1 then iS1 else if k = 2 then iS2 else iS3), ?_⟩
    intro k q hq
    match k, hq with
    | 0, hq => cases hq; exact hKn0
    | 1, hq => cases hq; exact hKn1
    | 2, hq => cases hq; exact hKn2
    | 3, hq => cases hq; exact hKn3
    | k + 4, hq => simp [vwCl] at hq
  obtain ⟨cI, hK⟩ : ∃ cI : ClassId, va_K D vwCl [(cI, .int)] s := by
    obtain ⟨cI, kA, comp, f1, f2, f3⟩ := Cond.arrayClass_spec (hts0 (.arrayClass .int) (by decide +kernel))
    refine ⟨cI, hKc, fun k q h => ?_⟩
    match k, h with
    | 0, h => cases h; exact ⟨fun n z => ⟨fun k h => (by cases h), kA, f2, comp, f3⟩, f1⟩
    | k + 1, h => simp at h
  have hS : va_S (fun q : Nat => s.heap.size ≤ q) s.heap s.heap [] := va_S.rf
  have hP : va_P D vwCl [] s.heap := fun k q h => by simp at h
  have hD : va_D (fun q : Nat => s.heap.size ≤ q) [] := ⟨fun i j p q h => by simp at h, fun k q h => by simp at h⟩
  have hl := lv_entry ([.ref b]) (n := 9) (Nat.le_of_ble_eq_true rfl)
  rw [lg_entry_eq]
  generalize (lg_sl ([.ref b]) ++ List.replicate (9 - (lg_sl ([.ref b])).length) Slot.unset).toArray = ls at hl ⊢
  have hl : lv_has ls 9 [(0, .ref b)] := hl
  refine va_new (ci := 2) (fs := [.null, .null, .int 0]) (C := RX2) (T := TX2) (N := 3) hx hb hts inlX2 tyX2 tyX2_ok hown (hts0 (.classLink RL 8 RX2) (by decide +kernel)) (hts0 (.instantiable RX2 3) (by decide +kernel)) (hts0 (.initialized RX2) (by decide +kernel)) hK hP hD hS hA rfl (fun j hj => by rcases (show j = 0 ∨ j = 1 ∨ j = 2 by omega) with rfl | rfl | rfl <;> rfl) (Nat.le_of_ble_eq_true rfl) (Nat.le_of_ble_eq_true rfl) dL_law_0 (fun q H hP hD hS => ?_)
  have hP : va_P D vwCl [(q, .inr (2, [.null, .null, .int 0]))] H := hP
  have hD : va_D (fun q : Nat => s.heap.size ≤ q) [(q, .inr (2, [.null, .null, .int 0]))] := hD
  refine W.widen (k := 1) (n := 3) (by omega) (by omega) ?_
  refine W.eq (g2 := F0 m 3 ls [.ref q]) rfl ?_
  refine lv_dup hx hb dL_law_3 rfl ?_
  refine pq_callI (rest := [.ref q]) (wr := []) (own := RL) (nL := 9) [0] [] [] (mX2_init l D cI q) ⟨hx, hb, hml, hown, hts⟩ (cwI 0 hts gL_law_X2_init rfl rfl rfl (hts0 (.initialized RX2) (by decide +kernel)) (hts0 (.methodLink RL 68 yX2_init) (by decide +kernel)) (hts0 (.instanceMethod yX2_init) (by decide +kernel)) rfl (by decide +kernel) ⟨Nat.le_of_ble_eq_true rfl, Nat.le_of_ble_eq_true rfl⟩) pq_blE (hE.1.call hD hS hA [0] rfl) hK hP hD hS hA rfl (by decide) rfl (by decide) (by decide) rfl hl.1 rfl (Nat.le_of_ble_eq_true rfl) dL_law_4 ⟨Nat.le_of_ble_eq_true rfl, Nat.le_of_ble_eq_true rfl⟩ (fun v w1 H locs hq hP hD hS hz => ?_)
  obtain ⟨h, a0, a1, a2, a3, a4, a5, g, b0, b1, rfl, rfl⟩ := hq
  have hP : va_P D vwCl (ppW q h a0 a1 a2 a3 a4 a5 g b0 b1 cI (sIter (upd (fun _ => 0) 1 0, upd (fun _ => 0) 1 (1 - 1)) 63).1 (sIter (upd (fun _ => 0) 1 0, upd (fun _ => 0) 1 (1 - 1)) 63).2 (bNew (sIter (upd (fun _ => 0) 1 0, upd (fun _ => 0) 1 (1 - 1)) 63) 0 ((fun _ => 0), (fun _ => 0), (fun _ => 0), (fun _ => 0), 0, 0, 0)) (gFillH 1 0 (fun _ => 0) 64, gFillC (fun _ => 0) 64, 1, 1 * 0) 0) H := hP
  have hD : va_D (fun q : Nat => s.heap.size ≤ q) (ppW q h a0 a1 a2 a3 a4 a5 g b0 b1 cI (sIter (upd (fun _ => 0) 1 0, upd (fun _ => 0) 1 (1 - 1)) 63).1 (sIter (upd (fun _ => 0) 1 0, upd (fun _ => 0) 1 (1 - 1)) 63).2 (bNew (sIter (upd (fun _ => 0) 1 0, upd (fun _ => 0) 1 (1 - 1)) 63) 0 ((fun _ => 0), (fun _ => 0), (fun _ => 0), (fun _ => 0), 0, 0, 0)) (gFillH 1 0 (fun _ => 0) 64, gFillC (fun _ => 0) 64, 1, 1 * 0) 0) := hD
  refine W.widen (k := 11) (n := 912) (by omega) (by omega) ?_
  refine W.eq (g2 := F0 m 7 ls [.ref q]) rfl ?_
  refine lv_astore_n (lv' := [(1, .ref q), (0, .ref b)]) hx hb dL_law_7 rfl hl (by decide) rfl (fun ls hl => ?_)
  refine va_new (ci := 3) (fs := [.int 0, .null, .null, .null, .null, .null, .null, .null, .null, .null, .int 0, .int 0, .int 0, .int 0, .int 0, .int 0, .int 0, .int 0]) (C := RX3) (T := TX3) (N := 18) hx hb hts inlX3 tyX3 tyX3_ok hown (hts0 (.classLink RL 69 RX3) (by decide +kernel)) (hts0 (.instantiable RX3 18) (by decide +kernel)) (hts0 (.initialized RX3) (by decide +kernel)) hK hP hD hS hA rfl (fun j hj => by rcases (show j = 0 ∨ j = 1 ∨ j = 2 ∨ j = 3 ∨ j = 4 ∨ j = 5 ∨ j = 6 ∨ j = 7 ∨ j = 8 ∨ j = 9 ∨ j = 10 ∨ j = 11 ∨ j = 12 ∨ j = 13 ∨ j = 14 ∨ j = 15 ∨ j = 16 ∨ j = 17 by omega) with rfl | rfl | rfl | rfl | rfl | rfl | rfl | rfl | rfl | rfl | rfl | rfl | rfl | rfl | rfl | rfl | rfl | rfl <;> rfl) (Nat.le_of_ble_eq_true rfl) (Nat.le_of_ble_eq_true rfl) dL_law_8 (fun mo H hP hD hS => ?_)
  have hP : va_P D vwCl (ppW q h a0 a1 a2 a3 a4 a5 g b0 b1 cI (sIter (upd (fun _ => 0) 1 0, upd (fun _ => 0) 1 (1 - 1)) 63).1 (sIter (upd (fun _ => 0) 1 0, upd (fun _ => 0) 1 (1 - 1)) 63).2 (bNew (sIter (upd (fun _ => 0) 1 0, upd (fun _ => 0) 1 (1 - 1)) 63) 0 ((fun _ => 0), (fun _ => 0), (fun _ => 0), (fun _ => 0), 0, 0, 0)) (gFillH 1 0 (fun _ => 0) 64, gFillC (fun _ => 0) 64, 1, 1 * 0) 0 ++ [(mo, .inr (3, [.int 0, .null, .null, .null, .null, .null, .null, .null, .null, .null, .int 0, .int 0, .int 0, .int 0, .int 0, .int 0, .int 0, .int 0]))]) H := hP
  have hD : va_D (fun q : Nat => s.heap.size ≤ q) (ppW q h a0 a1 a2 a3 a4 a5 g b0 b1 cI (sIter (upd (fun _ => 0) 1 0, upd (fun _ => 0) 1 (1 - 1)) 63).1 (sIter (upd (fun _ => 0) 1 0, upd (fun _ => 0) 1 (1 - 1)) 63).2 (bNew (sIter (upd (fun _ => 0) 1 0, upd (fun _ => 0) 1 (1 - 1)) 63) 0 ((fun _ => 0), (fun _ => 0), (fun _ => 0), (fun _ => 0), 0, 0, 0)) (gFillH 1 0 (fun _ => 0) 64, gFillC (fun _ => 0) 64, 1, 1 * 0) 0 ++ [(mo, .inr (3, [.int 0, .null, .null, .null, .null, .null, .null, .null, .null, .null, .int 0, .int 0, .int 0, .int 0, .int 0, .int 0, .int 0, .int 0]))]) := hD
  refine W.widen (k := 12) (n := 930) (by omega) (by omega) ?_
  refine W.eq (g2 := F0 m 11 ls [.ref mo]) rfl ?_
  refine lv_dup hx hb dL_law_11 rfl ?_
  refine pq_callI (rest := [.ref mo]) (wr := ppW q h a0 a1 a2 a3 a4 a5 g b0 b1 cI (sIter (upd (fun _ => 0) 1 0, upd (fun _ => 0) 1 (1 - 1)) 63).1 (sIter (upd (fun _ => 0) 1 0, upd (fun _ => 0) 1 (1 - 1)) 63).2 (bNew (sIter (upd (fun _ => 0) 1 0, upd (fun _ => 0) 1 (1 - 1)) 63) 0 ((fun _ => 0), (fun _ => 0), (fun _ => 0), (fun _ => 0), 0, 0, 0)) (gFillH 1 0 (fun _ => 0) 64, gFillC (fun _ => 0) 64, 1, 1 * 0) 0) (own := RL) (nL := 9) [11] [0, 1, 2, 3, 4, 5, 6, 7, 8, 9, 10] [] (mX3_init l D cI mo) ⟨hx, hb, hml, hown, hts⟩ (cwI 0 hts gL_law_X3_init rfl rfl rfl (hts0 (.initialized RX3) (by decide +kernel)) (hts0 (.methodLink RL 71 yX3_init) (by decide +kernel)) (hts0 (.instanceMethod yX3_init) (by decide +kernel)) rfl (by decide +kernel) ⟨Nat.le_of_ble_eq_true rfl, Nat.le_of_ble_eq_true rfl⟩) pq_bl0 (fun _ _ _ => trivial) hK hP hD hS hA rfl (by decide) rfl (by decide) (by decide) rfl hl.1 rfl (Nat.le_of_ble_eq_true rfl) dL_law_12 ⟨Nat.le_of_ble_eq_true rfl, Nat.le_of_ble_eq_true rfl⟩ (fun v w1 H locs hq hP hD hS hz => ?_)
  obtain ⟨z1, z2, z3, z4, z5, z6, z7, z8, z9, rfl, rfl⟩ := hq
  refine W.widen (k := 21) (n := 1890) (by omega) (by omega) ?_
  refine W.eq (g2 := F0 m 15 ls [.ref mo]) rfl ?_
  refine lv_astore_n (lv' := [(2, .ref mo), (1, .ref q), (0, .ref b)]) hx hb dL_law_15 rfl hl (by decide) rfl (fun ls hl => ?_)
  refine lv_iconst (v := 1) hx hb dL_law_16 (by decide) ?_
  refine va_newa (atype := .long) (ty := .long) (a0 := (1, .inr (.inl (fun _ => 0)))) (N' := 1) hx hb (hts0 (.arrayClass .long) (by decide +kernel)) rfl hK hP hD hS hA (fun _ => rfl) (by decide) rfl (Nat.le_of_ble_eq_true rfl) (Nat.le_of_ble_eq_true rfl) (Nat.le_of_ble_eq_true rfl) dL_law_17 (fun o cL H hK hP hD hS => ?_)
  have hK : va_K D vwCl [(cI, .int), (cL, .long)] s := hK
  have hP : va_P D vwCl (lwW o (fun _ => 0) q h a0 a1 a2 a3 a4 a5 g b0 b1 mo z1 z2 z3 z4 z5 z6 z7 z8 z9 cI cL (sIter (upd (fun _ => 0) 1 0, upd (fun _ => 0) 1 (1 - 1)) 63).1 (sIter (upd (fun _ => 0) 1 0, upd (fun _ => 0) 1 (1 - 1)) 63).2 (bNew (sIter (upd (fun _ => 0) 1 0, upd (fun _ => 0) 1 (1 - 1)) 63) 0 ((fun _ => 0), (fun _ => 0), (fun _ => 0), (fun _ => 0), 0, 0, 0)) (gFillH 1 0 (fun _ => 0) 64, gFillC (fun _ => 0) 64, 1, 1 * 0) 0 1 (gFillH 1 0 (fun _ => 0) 64) (gFillC (fun _ => 0) 64) (mIter 1 0 ((fun _ => 0), (fun _ => 0), ((fun _ => 0), (fun _ => 0), (fun _ => 0), (fun _ => 0), 0, 0, 0)) 127).1 (mIter 1 0 ((fun _ => 0), (fun _ => 0), ((fun _ => 0), (fun _ => 0), (fun _ => 0), (fun _ => 0), 0, 0, 0)) 127).2.1 (mNew (mIter 1 0 ((fun _ => 0), (fun _ => 0), ((fun _ => 0), (fun _ => 0), (fun _ => 0), (fun _ => 0), 0, 0, 0)) 127)) (fun _ => 0) 0 (1 * 0) 0 0 0) H := hP.sub [21, 0, 1, 2, 3, 4, 5, 6, 7, 8, 9, 10, 11, 12, 13, 14, 15, 16, 17, 18, 19, 20] rfl
  have hD : va_D (fun q : Nat => s.heap.size ≤ q) (lwW o (fun _ => 0) q h a0 a1 a2 a3 a4 a5 g b0 b1 mo z1 z2 z3 z4 z5 z6 z7 z8 z9 cI cL (sIter (upd (fun _ => 0) 1 0, upd (fun _ => 0) 1 (1 - 1)) 63).1 (sIter (upd (fun _ => 0) 1 0, upd (fun _ => 0) 1 (1 - 1)) 63).2 (bNew (sIter (upd (fun _ => 0) 1 0, upd (fun _ => 0) 1 (1 - 1)) 63) 0 ((fun _ => 0), (fun _ => 0), (fun _ => 0), (fun _ => 0), 0, 0, 0)) (gFillH 1 0 (fun _ => 0) 64, gFillC (fun _ => 0) 64, 1, 1 * 0) 0 1 (gFillH 1 0 (fun _ => 0) 64) (gFillC (fun _ => 0) 64) (mIter 1 0 ((fun _ => 0), (fun _ => 0), ((fun _ => 0), (fun _ => 0), (fun _ => 0), (fun _ => 0), 0, 0, 0)) 127).1 (mIter 1 0 ((fun _ => 0), (fun _ => 0), ((fun _ => 0), (fun _ => 0), (fun _ => 0), (fun _ => 0), 0, 0, 0)) 127).2.1 (mNew (mIter 1 0 ((fun _ => 0), (fun _ => 0), ((fun _ => 0), (fun _ => 0), (fun _ => 0), (fun _ => 0), 0, 0, 0)) 127)) (fun _ => 0) 0 (1 * 0) 0 0 0) := hD.sub [21, 0, 1, 2, 3, 4, 5, 6, 7, 8, 9, 10, 11, 12, 13, 14, 15, 16, 17, 18, 19, 20] (by decide) rfl
  refine W.widen (k := 22) (n := 1891) (by omega) (by omega) ?_
  refine W.eq (g2 := F0 m 19 ls [.ref o]) rfl ?_
  refine lv_astore_n (lv' := [(3, .ref o), (2, .ref mo), (1, .ref q), (0, .ref b)]) hx hb dL_law_19 rfl hl (by decide) rfl (fun ls hl => ?_)
  refine lv_iconst (v := 0) hx hb dL_law_20 (by decide) ?_
  refine lv_istore (lv' := [(4, .int (nI 0)), (3, .ref o), (2, .ref mo), (1, .ref q), (0, .ref b)]) hx hb dL_law_21 hl (by decide) rfl (fun ls hl => ?_)
  have C : LC p l s m meth c b L xs D cI cL := ⟨hx, hb, hml, hown, hts, hX, hbl, hK, hE, hfl, hL⟩
  obtain ⟨N, I, hN⟩ := st_new (x := 1) (y := 0) (by decide) (fun _ => 0) (fun _ => 0) ((fun _ => 0), (fun _ => 0), (fun _ => 0), (fun _ => 0), 0, 0, 0) (fun _ => 0) (fun _ => 0) (1 * 0) ((fun _ => 0), (fun _ => 0), ((fun _ => 0), (fun _ => 0), (fun _ => 0), (fun _ => 0), 0, 0, 0)) (fun _ => 0) (fun _ => 0)
  refine W.base ?_
  exact law_loop C hr hlocks 512 0 22 1891 s.drawn (Drawn.sameBut.refl s.drawn lw_cs) (Nat.zero_le _) (by omega) (by omega) (by omega) _ H locs ls ⟨_, _, _, _, _, _, _, _, _, _, _, _, _, _, _, _, _, _, _, rfl, hN, I, rfl, rfl⟩ hP hD hS hl
