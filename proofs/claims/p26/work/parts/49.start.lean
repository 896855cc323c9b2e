/-! the law -/
set_option maxRecDepth 100000 in
theorem st_nest : ∀ w ∈ pq_nest, w ∈ lw_tbl := by decide +kernel
set_option maxRecDepth 100000 in
theorem st_nestT : ∀ w ∈ pq_nest, w.onTables = true := by decide +kernel
set_option maxHeartbeats 8000000 in
set_option maxRecDepth 100000 in
/-- from the entry, for every script of at most 260 ints, the law comes to its end with true -/
theorem whole_start {p : Program} {e : Env} {s : State} {m : MethodId} {below : List Frame} {meth : Method} {c : Code} (l : Launch) (hflags : l.flags = flags0) {b L : Nat} {xs : Nat → Int32} (hL : L ≤ 260) (C0 : lw_At p s m meth c b L xs) : W p l e room_1 s m #[Value.ref b] below meth c s.heap [] 0 0 (lw_Z below #[Value.ref b] s) (entryFrame m ([Value.ref b] : List Value).toArray 5) := by
  obtain ⟨hx, hb, hr, hml, hown, hts0, hX, hbl, hlocks, hgv⟩ := id C0
  have hb : c.code = cL_law := hb
  have hown : s.vm.findClass RL = some m.cls := hown
  have hts : ∀ w ∈ wsL_law, w.before #[Value.ref b] s = true := fun w h => hts0 w (wsL_law_in w h)
  obtain ⟨A, hAd⟩ : ∃ A : Nat → Prop, A = (fun q : Nat => s.heap.size ≤ q) := ⟨_, rfl⟩
  have hA : ∀ q : Nat, s.heap.size ≤ q → A q := fun q h => by rw [hAd]; exact h
  have hE : pq_Ev A s := fun w hw => va_Nw.of (st_nestT w hw) (hts0 w (st_nest w hw))
  have hE2 : pq_Sc b L xs A s := ⟨hX, hbl, by rw [hAd]; exact Nat.not_le.mpr hbl⟩
  obtain ⟨c0, iS0, hKn0⟩ := u_known (C := RX0) (T := TX0) (N := 9) (n := 9) hts inlX0 (hts0 (.instantiable RX0 9) (by decide +kernel))
  obtain ⟨c1, iS1, hKn1⟩ := u_known (C := RX1) (T := TX1) (N := 4) (n := 4) hts inlX1 (hts0 (.instantiable RX1 4) (by decide +kernel))
  obtain ⟨c2, iS2, hKn2⟩ := u_known (C := RX2) (T := TX2) (N := 3) (n := 3) hts inlX2 (hts0 (.instantiable RX2 3) (by decide +kernel))
  obtain ⟨D, hKc⟩ : ∃ (D : va_G), ∀ (k : Nat) (q : vw_C), vwCl[k]? = some q → u_Kn s q.1 q.2.1 q.2.2 (D.1 k) (D.2 k) := by
    refine ⟨(fun k => if k = 0 then c0 else if k = 1 then c1 else c2, fun k => if k = 0 then iS0 else if k = 1 then iS1 else iS2), ?_⟩
    intro k q hq
    match k, hq with
    | 0, hq => cases hq; exact hKn0
    | 1, hq => cases hq; exact hKn1
    | 2, hq => cases hq; exact hKn2
    | k + 3, hq => simp [vwCl] at hq
  obtain ⟨cI, hK⟩ : ∃ cI : ClassId, va_K D vwCl [(cI, .int)] s := by
    obtain ⟨cI, kA, comp, f1, f2, f3⟩ := Cond.arrayClass_spec (hts0 (.arrayClass .int) (by decide +kernel))
    refine ⟨cI, hKc, fun k q h => ?_⟩
    match k, h with
    | 0, h => cases h; exact ⟨fun n z => ⟨fun k h => (by cases h), kA, f2, comp, f3⟩, f1⟩
    | k + 1, h => simp at h
  have hS : va_S A s.heap s.heap [] := va_S.rf
  have hP : va_P D vwCl [] s.heap := fun k q h => by simp at h
  have hD : va_D A [] := ⟨fun i j p q h => by simp at h, fun k q h => by simp at h⟩
  have hl := lv_entry ([.ref b]) (n := 5) (Nat.le_of_ble_eq_true rfl)
  rw [lg_entry_eq]
  generalize (lg_sl ([.ref b]) ++ List.replicate (5 - (lg_sl ([.ref b])).length) Slot.unset).toArray = ls at hl ⊢
  have hl : lv_has ls 5 [(0, .ref b)] := hl
  refine va_new (ci := 2) (fs := [.null, .null, .int 0]) (C := RX2) (T := TX2) (N := 3) hx hb hts inlX2 tyX2 tyX2_ok hown (hts0 (.classLink RL 9 RX2) (by decide +kernel)) (hts0 (.instantiable RX2 3) (by decide +kernel)) (hts0 (.initialized RX2) (by decide +kernel)) hK hP hD hS hA rfl (fun j hj => by rcases (show j = 0 ∨ j = 1 ∨ j = 2 by omega) with rfl | rfl | rfl <;> rfl) (Nat.le_of_ble_eq_true rfl) (Nat.le_of_ble_eq_true rfl) dL_law_0 (fun q H hP hD hS => ?_)
  have hP : va_P D vwCl [(q, .inr (2, [.null, .null, .int 0]))] H := hP
  have hD : va_D A [(q, .inr (2, [.null, .null, .int 0]))] := hD
  refine W.widen (k := 1) (n := 3) (by omega) (by omega) ?_
  refine W.eq (g2 := F0 m 3 ls [.ref q]) rfl ?_
  refine lv_dup hx hb dL_law_3 rfl ?_
  refine pq_callI (rest := [.ref q]) (wr := []) (own := RL) (nL := 5) [0] [] [] (mX2_init l D cI q) ⟨hx, hb, hml, hown, hts⟩ (cwI 0 hts gL_law_X2_init rfl rfl rfl (hts0 (.initialized RX2) (by decide +kernel)) (hts0 (.methodLink RL 100 yX2_init) (by decide +kernel)) (hts0 (.instanceMethod yX2_init) (by decide +kernel)) rfl (by decide +kernel) ⟨Nat.le_of_ble_eq_true rfl, Nat.le_of_ble_eq_true rfl⟩) pq_blE (hE.call hD hS hA [0] rfl) hK hP hD hS hA rfl (by decide) rfl (by decide) (by decide) rfl hl.1 rfl (Nat.le_of_ble_eq_true rfl) dL_law_4 ⟨Nat.le_of_ble_eq_true rfl, Nat.le_of_ble_eq_true rfl⟩ (fun v w1 H locs hq hP hD hS hz => ?_)
  obtain ⟨h, a0, a1, a2, a3, a4, a5, g, b0, b1, rfl, rfl⟩ := hq
  have hP : va_P D vwCl (ppW q h a0 a1 a2 a3 a4 a5 g b0 b1 cI (sIter (upd (fun _ => 0) 1 0, upd (fun _ => 0) 1 (1 - 1)) 63).1 (sIter (upd (fun _ => 0) 1 0, upd (fun _ => 0) 1 (1 - 1)) 63).2 (bNew (sIter (upd (fun _ => 0) 1 0, upd (fun _ => 0) 1 (1 - 1)) 63) 0 ((fun _ => 0), (fun _ => 0), (fun _ => 0), (fun _ => 0), 0, 0, 0)) (gFillH 1 0 (fun _ => 0) 64, gFillC (fun _ => 0) 64, 1, 1 * 0) 0) H := hP
  have hD : va_D A (ppW q h a0 a1 a2 a3 a4 a5 g b0 b1 cI (sIter (upd (fun _ => 0) 1 0, upd (fun _ => 0) 1 (1 - 1)) 63).1 (sIter (upd (fun _ => 0) 1 0, upd (fun _ => 0) 1 (1 - 1)) 63).2 (bNew (sIter (upd (fun _ => 0) 1 0, upd (fun _ => 0) 1 (1 - 1)) 63) 0 ((fun _ => 0), (fun _ => 0), (fun _ => 0), (fun _ => 0), 0, 0, 0)) (gFillH 1 0 (fun _ => 0) 64, gFillC (fun _ => 0) 64, 1, 1 * 0) 0) := hD
  refine W.widen (k := 11) (n := 912) (by omega) (by omega) ?_
  refine W.eq (g2 := F0 m 7 ls [.ref q]) rfl ?_
  refine lv_astore_n (lv' := [(1, .ref q), (0, .ref b)]) hx hb dL_law_7 rfl hl (by decide) rfl (fun ls hl => ?_)
  refine lv_aload_n hx hb dL_law_8 rfl (lv_at hl 0 rfl) ?_
  refine lv_iconst (v := 2) hx hb dL_law_9 (by decide) ?_
  refine lv_aload_n hx hb dL_law_10 rfl (lv_at hl 1 rfl) ?_
  refine lv_iconst (v := 0) hx hb dL_law_11 (by decide) ?_
  refine pq_callS (wr := (ppW q h a0 a1 a2 a3 a4 a5 g b0 b1 cI (sIter (upd (fun _ => 0) 1 0, upd (fun _ => 0) 1 (1 - 1)) 63).1 (sIter (upd (fun _ => 0) 1 0, upd (fun _ => 0) 1 (1 - 1)) 63).2 (bNew (sIter (upd (fun _ => 0) 1 0, upd (fun _ => 0) 1 (1 - 1)) 63) 0 ((fun _ => 0), (fun _ => 0), (fun _ => 0), (fun _ => 0), 0, 0, 0)) (gFillH 1 0 (fun _ => 0) 64, gFillC (fun _ => 0) 64, 1, 1 * 0) 0)) (own := RL) (nL := 5) [] [0, 1, 2, 3, 4, 5, 6, 7, 8, 9, 10] [.ref b, .int 0] (mL_cell l D cI b (L := L) xs (by omega) (k := 0) (by omega)) ⟨hx, hb, hml, hown, hts⟩ (va_cwS 2 hts gL_law_L_cell rfl rfl rfl (by decide +kernel) ⟨Nat.le_of_ble_eq_true rfl, Nat.le_of_ble_eq_true rfl⟩) (pq_blS b L xs) (hE2.call hS) hK hP hD hS hA rfl (by decide) rfl (by decide) (by decide) rfl hl.1 rfl (Nat.le_of_ble_eq_true rfl) dL_law_12 ⟨Nat.le_of_ble_eq_true rfl, Nat.le_of_ble_eq_true rfl⟩ (fun v w1 H locs hq hP hD hS hz => ?_)
  obtain ⟨x_1, rfl, rfl⟩ := hq
  have hP : va_P D vwCl (ppW q h a0 a1 a2 a3 a4 a5 g b0 b1 cI (sIter (upd (fun _ => 0) 1 0, upd (fun _ => 0) 1 (1 - 1)) 63).1 (sIter (upd (fun _ => 0) 1 0, upd (fun _ => 0) 1 (1 - 1)) 63).2 (bNew (sIter (upd (fun _ => 0) 1 0, upd (fun _ => 0) 1 (1 - 1)) 63) 0 ((fun _ => 0), (fun _ => 0), (fun _ => 0), (fun _ => 0), 0, 0, 0)) (gFillH 1 0 (fun _ => 0) 64, gFillC (fun _ => 0) 64, 1, 1 * 0) 0) H := by rw [List.append_nil] at hP; exact hP
  have hD : va_D A (ppW q h a0 a1 a2 a3 a4 a5 g b0 b1 cI (sIter (upd (fun _ => 0) 1 0, upd (fun _ => 0) 1 (1 - 1)) 63).1 (sIter (upd (fun _ => 0) 1 0, upd (fun _ => 0) 1 (1 - 1)) 63).2 (bNew (sIter (upd (fun _ => 0) 1 0, upd (fun _ => 0) 1 (1 - 1)) 63) 0 ((fun _ => 0), (fun _ => 0), (fun _ => 0), (fun _ => 0), 0, 0, 0)) (gFillH 1 0 (fun _ => 0) 64, gFillC (fun _ => 0) 64, 1, 1 * 0) 0) := by rw [List.append_nil] at hD; exact hD
  refine W.eq (g2 := F0 m 15 ls [.int x_1, .int 2, .ref q]) rfl ?_
  refine lv_bipush (v := 40) hx hb dL_law_15 (by decide) ?_
  refine pq_callS (wr := (ppW q h a0 a1 a2 a3 a4 a5 g b0 b1 cI (sIter (upd (fun _ => 0) 1 0, upd (fun _ => 0) 1 (1 - 1)) 63).1 (sIter (upd (fun _ => 0) 1 0, upd (fun _ => 0) 1 (1 - 1)) 63).2 (bNew (sIter (upd (fun _ => 0) 1 0, upd (fun _ => 0) 1 (1 - 1)) 63) 0 ((fun _ => 0), (fun _ => 0), (fun _ => 0), (fun _ => 0), 0, 0, 0)) (gFillH 1 0 (fun _ => 0) 64, gFillC (fun _ => 0) 64, 1, 1 * 0) 0)) (own := RL) (nL := 5) [] [0, 1, 2, 3, 4, 5, 6, 7, 8, 9, 10] [.int x_1, .int 40] (mL_low l D cI x_1 (n := 40) (by omega) (by omega)) ⟨hx, hb, hml, hown, hts⟩ (va_cwS 2 hts gL_law_L_low rfl rfl rfl (by decide +kernel) ⟨Nat.le_of_ble_eq_true rfl, Nat.le_of_ble_eq_true rfl⟩) pq_bl0 (fun _ _ _ => trivial) hK hP hD hS hA rfl (by decide) rfl (by decide) (by decide) rfl hl.1 rfl (Nat.le_of_ble_eq_true rfl) dL_law_17 ⟨Nat.le_of_ble_eq_true rfl, Nat.le_of_ble_eq_true rfl⟩ (fun v w1 H locs hq hP hD hS hz => ?_)
  obtain ⟨r_2, hr_2, rfl, rfl⟩ := hq
  have hP : va_P D vwCl (ppW q h a0 a1 a2 a3 a4 a5 g b0 b1 cI (sIter (upd (fun _ => 0) 1 0, upd (fun _ => 0) 1 (1 - 1)) 63).1 (sIter (upd (fun _ => 0) 1 0, upd (fun _ => 0) 1 (1 - 1)) 63).2 (bNew (sIter (upd (fun _ => 0) 1 0, upd (fun _ => 0) 1 (1 - 1)) 63) 0 ((fun _ => 0), (fun _ => 0), (fun _ => 0), (fun _ => 0), 0, 0, 0)) (gFillH 1 0 (fun _ => 0) 64, gFillC (fun _ => 0) 64, 1, 1 * 0) 0) H := by rw [List.append_nil] at hP; exact hP
  have hD : va_D A (ppW q h a0 a1 a2 a3 a4 a5 g b0 b1 cI (sIter (upd (fun _ => 0) 1 0, upd (fun _ => 0) 1 (1 - 1)) 63).1 (sIter (upd (fun _ => 0) 1 0, upd (fun _ => 0) 1 (1 - 1)) 63).2 (bNew (sIter (upd (fun _ => 0) 1 0, upd (fun _ => 0) 1 (1 - 1)) 63) 0 ((fun _ => 0), (fun _ => 0), (fun _ => 0), (fun _ => 0), 0, 0, 0)) (gFillH 1 0 (fun _ => 0) 64, gFillC (fun _ => 0) 64, 1, 1 * 0) 0) := by rw [List.append_nil] at hD; exact hD
  refine W.eq (g2 := F0 m 20 ls [.int (nI r_2), .int 2, .ref q]) rfl ?_
  refine lv_iadd hx hb dL_law_20 ?_
  refine pq_top (nI (2 + r_2)) (nI_add 2 _) ?_
  refine lv_bipush (v := 100) hx hb dL_law_21 (by decide) ?_
  refine pq_callV (wr := []) (own := RL) (nL := 5) (q0 := 0) (ci := 2) [0, 1, 2, 3, 4, 5, 6, 7, 8, 9, 10] [] [.int (nI (2 + r_2)), .int 100] (f_layOut l D cI q h a0 a1 a2 a3 a4 a5 g b0 b1 (show (1 : Int32) = nI 1 from rfl) (by decide) (n0 := (2 + r_2)) (v0 := 100) (by omega) (by omega) (by omega)) ⟨hx, hb, hml, hown, hts⟩ (cwV 2 hts gL_law_X2_layOut rfl rfl rfl (by decide +kernel) ⟨Nat.le_of_ble_eq_true rfl, Nat.le_of_ble_eq_true rfl⟩) pq_blE (hE.call hD hS hA [0, 1, 2, 3, 4, 5, 6, 7, 8, 9, 10] rfl) hK hP hD hS hA rfl (by decide) rfl (by decide) (by decide) rfl rfl rfl rfl hl.1 rfl (Nat.le_of_ble_eq_true rfl) dL_law_23 ⟨Nat.le_of_ble_eq_true rfl, Nat.le_of_ble_eq_true rfl⟩ (fun v w1 H locs hq hP hD hS hz => ?_)
  obtain ⟨fi_3, la_3, B_3, G_3, rfl, rfl, lz_3, I_3⟩ := hq
  have hP : va_P D vwCl (ppW q h a0 a1 a2 a3 a4 a5 g b0 b1 cI fi_3 la_3 B_3 G_3 0) H := hP
  have hD : va_D A (ppW q h a0 a1 a2 a3 a4 a5 g b0 b1 cI fi_3 la_3 B_3 G_3 0) := hD
  refine W.eq (g2 := F0 m 26 ls [.int (nI ((2 + r_2) * 100))]) rfl ?_
  refine lv_istore_n (lv' := [(2, .int (nI ((2 + r_2) * 100))), (1, .ref q), (0, .ref b)]) hx hb dL_law_26 rfl hl (by decide) rfl (fun ls hl => ?_)
  refine lv_iload_n hx hb dL_law_27 rfl (lv_at hl 0 rfl) ?_
  refine lv_sipush (v := 200) hx hb dL_law_28 (by decide) ?_
  refine lv_icmp_ge (tgt := 36) hx hb dL_law_31 (by decide) (fun _ => ?_) (fun c9 => absurd (nI_le (a := 200) (b := ((2 + r_2) * 100)) (by omega) (by omega)) c9)
  refine lv_iconst (v := 0) hx hb dL_law_36 (by decide) ?_
  refine lv_istore_n (lv' := [(3, .int 0), (2, .int (nI ((2 + r_2) * 100))), (1, .ref q), (0, .ref b)]) hx hb dL_law_37 rfl hl (by decide) rfl (fun ls hl => ?_)
  have LP : ∀ (n : Nat) (i N : Nat) (hs cs : Nat → Nat) (vis tot cal : Nat) (fi la : Nat → Int32) (B : BK) (G : GK) (pr : Int32), 57 - i < n → J N hs cs vis tot cal fi la B G pr → tot ≤ 256 * i → i ≤ 56 → ∀ (H : Heap) (locs : List Loc) (ls : Array Slot), va_P D vwCl (ppW q h a0 a1 a2 a3 a4 a5 g b0 b1 cI fi la B G pr) H → va_D A (ppW q h a0 a1 a2 a3 a4 a5 g b0 b1 cI fi la B G pr) → va_S A s.heap H locs → lv_has ls 5 [(3, .int (nI i)), (2, .int (nI ((2 + r_2) * 100))), (1, .ref q), (0, .ref b)] → W p l e room_1 s m #[Value.ref b] below meth c H locs 11 912 (lw_Z below #[Value.ref b] s) (F0 m 38 ls []) := by
    intro n
    induction n with
    | zero => intro i N hs cs vis tot cal fi la B G pr h9; exact absurd h9 (Nat.not_lt_zero _)
    | succ n ihLP =>
      intro i N hs cs vis tot cal fi la B G pr hmeas I ht hi H locs ls hP hD hS hl
      have hN1 := I.1
      have hN2 := I.2.1
      refine lv_iload_n hx hb dL_law_38 rfl (lv_at hl 0 rfl) ?_
      refine lv_bipush (v := 56) hx hb dL_law_39 (by decide) ?_
      rcases Nat.lt_or_ge i 56 with k_4 | k_4
      · refine lv_icmp_ge (tgt := 101) hx hb dL_law_41 (by decide) (fun c9 => absurd c9 ((nI_ge (a := i) (b := 56) k_4 (by omega)))) (fun _ => ?_)
        refine lv_aload_n hx hb dL_law_44 rfl (lv_at hl 3 rfl) ?_
        refine lv_iload_n hx hb dL_law_45 rfl (lv_at hl 0 rfl) ?_
        refine pq_callS (wr := (ppW q h a0 a1 a2 a3 a4 a5 g b0 b1 cI fi la B G pr)) (own := RL) (nL := 5) [] [0, 1, 2, 3, 4, 5, 6, 7, 8, 9, 10] [.ref b, .int (nI i)] (mL_cell l D cI b (L := L) xs (by omega) (k := i) (by omega)) ⟨hx, hb, hml, hown, hts⟩ (va_cwS 2 hts gL_law_L_cell rfl rfl rfl (by decide +kernel) ⟨Nat.le_of_ble_eq_true rfl, Nat.le_of_ble_eq_true rfl⟩) (pq_blS b L xs) (hE2.call hS) hK hP hD hS hA rfl (by decide) rfl (by decide) (by decide) rfl hl.1 rfl (Nat.le_of_ble_eq_true rfl) dL_law_46 ⟨Nat.le_of_ble_eq_true rfl, Nat.le_of_ble_eq_true rfl⟩ (fun v w1 H locs hq hP hD hS hz => ?_)
        obtain ⟨x_5, rfl, rfl⟩ := hq
        have hP : va_P D vwCl (ppW q h a0 a1 a2 a3 a4 a5 g b0 b1 cI fi la B G pr) H := by rw [List.append_nil] at hP; exact hP
        have hD : va_D A (ppW q h a0 a1 a2 a3 a4 a5 g b0 b1 cI fi la B G pr) := by rw [List.append_nil] at hD; exact hD
        refine W.eq (g2 := F0 m 49 ls [.int x_5]) rfl ?_
        refine lv_istore (lv' := [(4, .int x_5), (3, .int (nI i)), (2, .int (nI ((2 + r_2) * 100))), (1, .ref q), (0, .ref b)]) hx hb dL_law_49 hl (by decide) rfl (fun ls hl => ?_)
        refine lv_aload_n hx hb dL_law_51 rfl (lv_at hl 3 rfl) ?_
        refine lv_iload hx hb dL_law_52 (lv_at hl 0 rfl) ?_
        refine lv_aload_n hx hb dL_law_54 rfl (lv_at hl 4 rfl) ?_
        refine lv_iload_n hx hb dL_law_55 rfl (lv_at hl 1 rfl) ?_
        refine lv_bipush (v := 8) hx hb dL_law_56 (by decide) ?_
        refine lv_iadd hx hb dL_law_58 ?_
        refine pq_top (nI (i + 8)) (nI_add _ 8) ?_
        refine pq_callS (wr := (ppW q h a0 a1 a2 a3 a4 a5 g b0 b1 cI fi la B G pr)) (own := RL) (nL := 5) [] [0, 1, 2, 3, 4, 5, 6, 7, 8, 9, 10] [.ref b, .int (nI (i + 8))] (mL_cell l D cI b (L := L) xs (by omega) (k := (i + 8)) (by omega)) ⟨hx, hb, hml, hown, hts⟩ (va_cwS 2 hts gL_law_L_cell rfl rfl rfl (by decide +kernel) ⟨Nat.le_of_ble_eq_true rfl, Nat.le_of_ble_eq_true rfl⟩) (pq_blS b L xs) (hE2.call hS) hK hP hD hS hA rfl (by decide) rfl (by decide) (by decide) rfl hl.1 rfl (Nat.le_of_ble_eq_true rfl) dL_law_59 ⟨Nat.le_of_ble_eq_true rfl, Nat.le_of_ble_eq_true rfl⟩ (fun v w1 H locs hq hP hD hS hz => ?_)
        obtain ⟨x_6, rfl, rfl⟩ := hq
        have hP : va_P D vwCl (ppW q h a0 a1 a2 a3 a4 a5 g b0 b1 cI fi la B G pr) H := by rw [List.append_nil] at hP; exact hP
        have hD : va_D A (ppW q h a0 a1 a2 a3 a4 a5 g b0 b1 cI fi la B G pr) := by rw [List.append_nil] at hD; exact hD
        refine W.eq (g2 := F0 m 62 ls [.int x_6, .int x_5, .ref q]) rfl ?_
        refine pq_callS (wr := []) (own := RL) (nL := 5) [0, 1, 2, 3, 4, 5, 6, 7, 8, 9, 10] [] [.ref q, .int x_5, .int x_6] (mL_does l D cI q h a0 a1 a2 a3 a4 a5 g b0 b1 I (by omega) x_5 x_6) ⟨hx, hb, hml, hown, hts⟩ (va_cwS 3 hts gL_law_L_does rfl rfl rfl (by decide +kernel) ⟨Nat.le_of_ble_eq_true rfl, Nat.le_of_ble_eq_true rfl⟩) pq_blE (hE.call hD hS hA [0, 1, 2, 3, 4, 5, 6, 7, 8, 9, 10] rfl) hK hP hD hS hA rfl (by decide) rfl (by decide) (by decide) rfl hl.1 rfl (Nat.le_of_ble_eq_true rfl) dL_law_62 ⟨Nat.le_of_ble_eq_true rfl, Nat.le_of_ble_eq_true rfl⟩ (fun v w1 H locs hq hP hD hS hz => ?_)
        obtain ⟨rfl, N_7, hs_7, cs_7, vis_7, tot_7, cal_7, fi_7, la_7, B_7, G_7, pr_7, rfl, I_7, ht_7⟩ := hq
        have hNa_7 := I_7.1
        have hNb_7 := I_7.2.1
        have hP : va_P D vwCl (ppW q h a0 a1 a2 a3 a4 a5 g b0 b1 cI fi_7 la_7 B_7 G_7 pr_7) H := hP
        have hD : va_D A (ppW q h a0 a1 a2 a3 a4 a5 g b0 b1 cI fi_7 la_7 B_7 G_7 pr_7) := hD
        refine W.eq (g2 := F0 m 65 ls [.int 1]) rfl ?_
        refine lv_if_eq (tgt := 93) hx hb dL_law_65 (by decide) (fun c9 => absurd c9 (by decide)) (fun _ => ?_)
        refine lv_aload_n hx hb dL_law_68 rfl (lv_at hl 3 rfl) ?_
        refine pq_callS (wr := []) (own := RL) (nL := 5) [0, 1, 2, 3, 4, 5, 6, 7, 8, 9, 10] [] [.ref q] (mL_isSo l D cI q h a0 a1 a2 a3 a4 a5 g b0 b1 I_7 (by omega)) ⟨hx, hb, hml, hown, hts⟩ (va_cwS 1 hts gL_law_L_isSo rfl rfl rfl (by decide +kernel) ⟨Nat.le_of_ble_eq_true rfl, Nat.le_of_ble_eq_true rfl⟩) pq_blE (hE.call hD hS hA [0, 1, 2, 3, 4, 5, 6, 7, 8, 9, 10] rfl) hK hP hD hS hA rfl (by decide) rfl (by decide) (by decide) rfl hl.1 rfl (Nat.le_of_ble_eq_true rfl) dL_law_69 ⟨Nat.le_of_ble_eq_true rfl, Nat.le_of_ble_eq_true rfl⟩ (fun v w1 H locs hq hP hD hS hz => ?_)
        obtain ⟨rfl, rfl⟩ := hq
        have hP : va_P D vwCl (ppW q h a0 a1 a2 a3 a4 a5 g b0 b1 cI fi_7 la_7 B_7 G_7 pr_7) H := hP
        have hD : va_D A (ppW q h a0 a1 a2 a3 a4 a5 g b0 b1 cI fi_7 la_7 B_7 G_7 pr_7) := hD
        refine W.eq (g2 := F0 m 72 ls [.int 1]) rfl ?_
        refine lv_if_eq (tgt := 93) hx hb dL_law_72 (by decide) (fun c9 => absurd c9 (by decide)) (fun _ => ?_)
        refine lv_aload_n hx hb dL_law_75 rfl (lv_at hl 3 rfl) ?_
        refine lv_iload hx hb dL_law_76 (lv_at hl 0 rfl) ?_
        refine lv_iconst (v := 5) hx hb dL_law_78 (by decide) ?_
        refine lv_ishr hx hb dL_law_79 ?_
        obtain ⟨z_9, hz_9⟩ : ∃ z : Int32, z = x_5 >>> (5 &&& 31) := ⟨_, rfl⟩
        refine pq_top z_9 hz_9.symm ?_
        refine lv_aload_n hx hb dL_law_80 rfl (lv_at hl 3 rfl) ?_
        refine pq_callV (wr := []) (own := RL) (nL := 5) (q0 := 0) (ci := 2) [0, 1, 2, 3, 4, 5, 6, 7, 8, 9, 10] [] [] (f_columns l D cI q h a0 a1 a2 a3 a4 a5 g b0 b1 I_7) ⟨hx, hb, hml, hown, hts⟩ (cwV 0 hts gL_law_X2_columns rfl rfl rfl (by decide +kernel) ⟨Nat.le_of_ble_eq_true rfl, Nat.le_of_ble_eq_true rfl⟩) pq_blE (hE.call hD hS hA [0, 1, 2, 3, 4, 5, 6, 7, 8, 9, 10] rfl) hK hP hD hS hA rfl (by decide) rfl (by decide) (by decide) rfl rfl rfl rfl hl.1 rfl (Nat.le_of_ble_eq_true rfl) dL_law_81 ⟨Nat.le_of_ble_eq_true rfl, Nat.le_of_ble_eq_true rfl⟩ (fun v w1 H locs hq hP hD hS hz => ?_)
        obtain ⟨rfl, rfl⟩ := hq
        have hP : va_P D vwCl (ppW q h a0 a1 a2 a3 a4 a5 g b0 b1 cI fi_7 la_7 B_7 G_7 pr_7) H := hP
        have hD : va_D A (ppW q h a0 a1 a2 a3 a4 a5 g b0 b1 cI fi_7 la_7 B_7 G_7 pr_7) := hD
        refine W.eq (g2 := F0 m 84 ls [.int (nI N_7), .int z_9, .ref q]) rfl ?_
        refine pq_callS (wr := (ppW q h a0 a1 a2 a3 a4 a5 g b0 b1 cI fi_7 la_7 B_7 G_7 pr_7)) (own := RL) (nL := 5) [] [0, 1, 2, 3, 4, 5, 6, 7, 8, 9, 10] [.int z_9, .int (nI N_7)] (mL_low l D cI z_9 (n := N_7) (by omega) (by omega)) ⟨hx, hb, hml, hown, hts⟩ (va_cwS 2 hts gL_law_L_low rfl rfl rfl (by decide +kernel) ⟨Nat.le_of_ble_eq_true rfl, Nat.le_of_ble_eq_true rfl⟩) pq_bl0 (fun _ _ _ => trivial) hK hP hD hS hA rfl (by decide) rfl (by decide) (by decide) rfl hl.1 rfl (Nat.le_of_ble_eq_true rfl) dL_law_84 ⟨Nat.le_of_ble_eq_true rfl, Nat.le_of_ble_eq_true rfl⟩ (fun v w1 H locs hq hP hD hS hz => ?_)
        obtain ⟨r_11, hr_11, rfl, rfl⟩ := hq
        have hP : va_P D vwCl (ppW q h a0 a1 a2 a3 a4 a5 g b0 b1 cI fi_7 la_7 B_7 G_7 pr_7) H := by rw [List.append_nil] at hP; exact hP
        have hD : va_D A (ppW q h a0 a1 a2 a3 a4 a5 g b0 b1 cI fi_7 la_7 B_7 G_7 pr_7) := by rw [List.append_nil] at hD; exact hD
        refine W.eq (g2 := F0 m 87 ls [.int (nI r_11), .ref q]) rfl ?_
        refine pq_callS (wr := []) (own := RL) (nL := 5) [0, 1, 2, 3, 4, 5, 6, 7, 8, 9, 10] [] [.ref q, .int (nI r_11)] (mL_isEntrySo l D cI q h a0 a1 a2 a3 a4 a5 g b0 b1 I_7 (by omega) (kx := r_11) (by omega)) ⟨hx, hb, hml, hown, hts⟩ (va_cwS 2 hts gL_law_L_isEntrySo rfl rfl rfl (by decide +kernel) ⟨Nat.le_of_ble_eq_true rfl, Nat.le_of_ble_eq_true rfl⟩) pq_blE (hE.call hD hS hA [0, 1, 2, 3, 4, 5, 6, 7, 8, 9, 10] rfl) hK hP hD hS hA rfl (by decide) rfl (by decide) (by decide) rfl hl.1 rfl (Nat.le_of_ble_eq_true rfl) dL_law_87 ⟨Nat.le_of_ble_eq_true rfl, Nat.le_of_ble_eq_true rfl⟩ (fun v w1 H locs hq hP hD hS hz => ?_)
        obtain ⟨rfl, rfl⟩ := hq
        have hP : va_P D vwCl (ppW q h a0 a1 a2 a3 a4 a5 g b0 b1 cI fi_7 la_7 B_7 G_7 pr_7) H := hP
        have hD : va_D A (ppW q h a0 a1 a2 a3 a4 a5 g b0 b1 cI fi_7 la_7 B_7 G_7 pr_7) := hD
        refine W.eq (g2 := F0 m 90 ls [.int 1]) rfl ?_
        refine lv_if_ne (tgt := 95) hx hb dL_law_90 (by decide) (fun _ => ?_) (fun c9 => absurd c9 (by decide))
        refine lv_iinc (v := nI (i + 1)) (lv' := [(3, .int (nI (i + 1))), (4, .int x_5), (2, .int (nI ((2 + r_2) * 100))), (1, .ref q), (0, .ref b)]) hx hb dL_law_95 hl (k := 1) rfl (nI_add _ 1) (by decide) rfl (fun ls hl => ?_)
        refine lv_goto (tgt := 38) hx hb dL_law_98 (by decide) ?_
        exact ihLP (i + 1) _ _ _ _ _ _ _ _ _ _ _ (by omega) I_7 (by omega) (by omega) H locs ls hP hD hS (lv_sub hl [0, 2, 3, 4] rfl)
      · refine lv_icmp_ge (tgt := 101) hx hb dL_law_41 (by decide) (fun _ => ?_) (fun c9 => absurd ((nI_le (a := 56) (b := i) k_4 (by omega))) c9)
        refine lv_iconst (v := 1) hx hb dL_law_101 (by decide) ?_
        refine va_forget (fun q hq => by have z := hS.2.2 q hq; rw [hAd] at z; exact z) ?_
        refine W.widen (k := 600130) (n := 7301080) (by omega) (by omega) ?_
        refine W.base ?_
        exact lw_ret (Drawn.sameBut.refl s.drawn lw_cs) hx hb hr hlocks dL_law_102
  exact LP _ 0 _ _ _ _ _ _ _ _ _ _ _ (Nat.lt_succ_self _) I_3 (by omega) (by omega) H locs ls hP hD hS (lv_sub hl [0, 1, 2, 3] rfl)
