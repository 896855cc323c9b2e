set_option maxHeartbeats 4000000 in
set_option maxRecDepth 100000 in
theorem mX2_ceilingOver (l : Launch) (D : va_G) (cI : ClassId) (q h a0 a1 a2 a3 a4 a5 g b0 b1 : Nat) (fi la : Nat → Int32) (B : BK) (G : GK) (pr : Int32) (N : Nat) (hfl : l.stackTraces = false) (hN : G.2.2.1 = nI N) (hN1 : 1 ≤ N) (hN2 : N ≤ 64) (x : Int32) : pq_XM l yX2_ceilingOver wsX2_ceilingOver 7 121 2 12 D [(cI, .int)] pq_Ev (ppW q h a0 a1 a2 a3 a4 a5 g b0 b1 cI fi la B G pr) [.ref q, .int x] (fun v w1 => ∃ k, x = nI k ∧ k < N ∧ v = some (.int (G.2.1 k)) ∧ w1 = ppW q h a0 a1 a2 a3 a4 a5 g b0 b1 cI fi la B G pr ∧ cOver G.2.2.1 G.2.1 x = 0) (fun Ex w1 => w1 = ppW q h a0 a1 a2 a3 a4 a5 g b0 b1 cI fi la B G pr ∧ (xnO (cOver G.2.2.1 G.2.1 x) Ex)) := by
  refine pq_xenter (cc := cX2_ceilingOver) (maxL := 3) (ret := (some .int)) (by decide) rfl (Nat.le_of_ble_eq_true rfl) ?_
  intro p ev s m args below meth cd A ls Q H locs hx hb hr hml hts hown hlocks hnm hK hP hD hS hA hE hl hQ
  have hl : lv_has ls 3 [(0, .ref q), (1, .int x)] := hl
  have hP : va_P D vwCl [(q, .inr (2, [.ref h, .ref g, .int pr])), (h, .inr (0, [.ref a0, .ref a1, .ref a2, .ref a3, .ref a4, .ref a5, .int B.2.2.2.2.1, .int B.2.2.2.2.2.1, .int B.2.2.2.2.2.2])), (a0, .inl (cI, 128, .inl fi)), (a1, .inl (cI, 128, .inl la)), (a2, .inl (cI, 128, .inl B.1)), (a3, .inl (cI, 128, .inl B.2.1)), (a4, .inl (cI, 128, .inl B.2.2.1)), (a5, .inl (cI, 128, .inl B.2.2.2.1)), (g, .inr (1, [.ref b0, .ref b1, .int G.2.2.1, .int G.2.2.2])), (b0, .inl (cI, 64, .inl G.1)), (b1, .inl (cI, 64, .inl G.2.1))] H := hP
  have hD : va_D A [(q, .inr (2, [.ref h, .ref g, .int pr])), (h, .inr (0, [.ref a0, .ref a1, .ref a2, .ref a3, .ref a4, .ref a5, .int B.2.2.2.2.1, .int B.2.2.2.2.2.1, .int B.2.2.2.2.2.2])), (a0, .inl (cI, 128, .inl fi)), (a1, .inl (cI, 128, .inl la)), (a2, .inl (cI, 128, .inl B.1)), (a3, .inl (cI, 128, .inl B.2.1)), (a4, .inl (cI, 128, .inl B.2.2.1)), (a5, .inl (cI, 128, .inl B.2.2.2.1)), (g, .inr (1, [.ref b0, .ref b1, .int G.2.2.1, .int G.2.2.2])), (b0, .inl (cI, 64, .inl G.1)), (b1, .inl (cI, 64, .inl G.2.1))] := hD
  have hin_X2 : ∀ w ∈ wsX20, w ∈ wsX2_ceilingOver := by decide +kernel
  have hf_PressedPlains_19 := hts (.fieldLink RX2 19 "PressedPlains" "ground" "LPressedPlains$Ground;") (by decide +kernel)
  have hin_X1 : ∀ w ∈ wsX10, w ∈ wsX2_ceilingOver := by decide +kernel
  have hn_87 : (Cond.fieldLinkNest RX2 87 "PressedPlains$Ground" "ceilings" "[I" "PressedPlains").before args s = true := va_Nw.use rfl (hE.1.1 _ (List.mem_of_getElem? (i := 12) rfl))
  refine lv_aload_n hx hb dX2_ceilingOver_0 rfl (lv_at hl 0 rfl) ?_
  refine lv_iload_n hx hb dX2_ceilingOver_1 rfl (lv_at hl 1 rfl) ?_
  refine px_callV (wr := []) (own := RX2) (nL := 3) (q0 := 0) (ci := 2) [0, 1, 2, 3, 4, 5, 6, 7, 8, 9, 10] [] [.int x] (mX2_requireColumn l D cI q h a0 a1 a2 a3 a4 a5 g b0 b1 fi la B G pr N hfl hN hN1 hN2 x) ⟨hx, hb, hml, hown, hts⟩ (cwV 1 hts gX2_ceilingOver_X2_requireColumn rfl rfl rfl (by decide +kernel) ⟨by dsimp only [pq_R]; omega, by dsimp only [pq_R]; omega⟩) pq_blE (hE.call hD hS hA [0, 1, 2, 3, 4, 5, 6, 7, 8, 9, 10] rfl) hK hP hD hS hA rfl (by decide) rfl (by decide) (by decide) rfl rfl rfl rfl hl.1 rfl (Nat.le_of_ble_eq_true rfl) dX2_ceilingOver_2 ⟨by dsimp only [pq_R]; omega, by dsimp only [pq_R]; omega⟩ (fun Ex ce q9 w1 H locs hq hP hD hS hce hcv hcl => ?_) (fun v w1 H locs hq hP hD hS hz => ?_)
  · obtain ⟨rfl, hbad⟩ := hq
    have hP : va_P D vwCl [(q, .inr (2, [.ref h, .ref g, .int pr])), (h, .inr (0, [.ref a0, .ref a1, .ref a2, .ref a3, .ref a4, .ref a5, .int B.2.2.2.2.1, .int B.2.2.2.2.2.1, .int B.2.2.2.2.2.2])), (a0, .inl (cI, 128, .inl fi)), (a1, .inl (cI, 128, .inl la)), (a2, .inl (cI, 128, .inl B.1)), (a3, .inl (cI, 128, .inl B.2.1)), (a4, .inl (cI, 128, .inl B.2.2.1)), (a5, .inl (cI, 128, .inl B.2.2.2.1)), (g, .inr (1, [.ref b0, .ref b1, .int G.2.2.1, .int G.2.2.2])), (b0, .inl (cI, 64, .inl G.1)), (b1, .inl (cI, 64, .inl G.2.1))] H := hP
    have hD : va_D A [(q, .inr (2, [.ref h, .ref g, .int pr])), (h, .inr (0, [.ref a0, .ref a1, .ref a2, .ref a3, .ref a4, .ref a5, .int B.2.2.2.2.1, .int B.2.2.2.2.2.1, .int B.2.2.2.2.2.2])), (a0, .inl (cI, 128, .inl fi)), (a1, .inl (cI, 128, .inl la)), (a2, .inl (cI, 128, .inl B.1)), (a3, .inl (cI, 128, .inl B.2.1)), (a4, .inl (cI, 128, .inl B.2.2.1)), (a5, .inl (cI, 128, .inl B.2.2.2.1)), (g, .inr (1, [.ref b0, .ref b1, .int G.2.2.1, .int G.2.2.2])), (b0, .inl (cI, 64, .inl G.1)), (b1, .inl (cI, 64, .inl G.2.1))] := hD
    exact px_out hQ hlocks hK hS hP hD hce hcv hcl (by omega) (by omega) (⟨rfl, xl_over1 hbad⟩)
  obtain ⟨rfl, rfl, hc_1⟩ := hq
  obtain ⟨kx, hkx, rfl⟩ := colN hc_1 hN hN2
  have hP : va_P D vwCl [(q, .inr (2, [.ref h, .ref g, .int pr])), (h, .inr (0, [.ref a0, .ref a1, .ref a2, .ref a3, .ref a4, .ref a5, .int B.2.2.2.2.1, .int B.2.2.2.2.2.1, .int B.2.2.2.2.2.2])), (a0, .inl (cI, 128, .inl fi)), (a1, .inl (cI, 128, .inl la)), (a2, .inl (cI, 128, .inl B.1)), (a3, .inl (cI, 128, .inl B.2.1)), (a4, .inl (cI, 128, .inl B.2.2.1)), (a5, .inl (cI, 128, .inl B.2.2.2.1)), (g, .inr (1, [.ref b0, .ref b1, .int G.2.2.1, .int G.2.2.2])), (b0, .inl (cI, 64, .inl G.1)), (b1, .inl (cI, 64, .inl G.2.1))] H := hP
  have hD : va_D A [(q, .inr (2, [.ref h, .ref g, .int pr])), (h, .inr (0, [.ref a0, .ref a1, .ref a2, .ref a3, .ref a4, .ref a5, .int B.2.2.2.2.1, .int B.2.2.2.2.2.1, .int B.2.2.2.2.2.2])), (a0, .inl (cI, 128, .inl fi)), (a1, .inl (cI, 128, .inl la)), (a2, .inl (cI, 128, .inl B.1)), (a3, .inl (cI, 128, .inl B.2.1)), (a4, .inl (cI, 128, .inl B.2.2.1)), (a5, .inl (cI, 128, .inl B.2.2.2.1)), (g, .inr (1, [.ref b0, .ref b1, .int G.2.2.1, .int G.2.2.2])), (b0, .inl (cI, 64, .inl G.1)), (b1, .inl (cI, 64, .inl G.2.1))] := hD
  refine W.widen (k := 1) (n := 6) (by omega) (by omega) ?_
  refine W.eq (g2 := F0 m 5 ls []) rfl ?_
  refine lv_aload_n hx hb dX2_ceilingOver_5 rfl (lv_at hl 0 rfl) ?_
  refine va_get (D := D) (ci := 2) (v := .ref g) (C := RX2) (T := TX2) (N := 3) hx hb hts hin_X2 hown hK hP 0 rfl rfl 1 (by decide) hf_PressedPlains_19 (fun _ h9 => h9) rfl dX2_ceilingOver_6 ?_
  refine va_getN (D := D) (ci := 1) (v := .ref b1) (C := RX1) (T := TX1) (N := 4) hx hb hts hin_X1 hown hK hP 8 rfl rfl 1 (by decide) hn_87 (fun _ h9 => h9) rfl dX2_ceilingOver_9 ?_
  refine lv_iload_n hx hb dX2_ceilingOver_12 rfl (lv_at hl 1 rfl) ?_
  refine pq_iald hx hb hK hP 10 0 rfl rfl kx (by omega) (by decide) dX2_ceilingOver_13 ?_
  refine lv_istore_n (lv' := [(2, .int (G.2.1 kx)), (0, .ref q), (1, .int (nI kx))]) hx hb dX2_ceilingOver_14 rfl hl (by decide) rfl (fun ls hl => ?_)
  refine lv_iload_n hx hb dX2_ceilingOver_15 rfl (lv_at hl 0 rfl) ?_
  refine lv_iconst (v := (-1)) hx hb dX2_ceilingOver_16 (by decide) ?_
  refine lv_icmp_ne (tgt := 30) hx hb dX2_ceilingOver_17 (by decide) (fun c_2 => ?_) (fun c_2 => ?_)
  · refine lv_iload_n hx hb dX2_ceilingOver_30 rfl (lv_at hl 0 rfl) ?_
    exact px_iret hQ hx hb hr hlocks hK hS hP hD dX2_ceilingOver_31 (by omega) (by omega) (⟨kx, rfl, hkx, rfl, rfl, cl_over (by omega) hc_1 c_2⟩)
  · exact px_throwN (text := "no ceiling was lowered there") (ik := 82) (is := 90) (Ts := wsX2_ceilingOver) hfl hQ hx hb hown hlocks hts (by decide +kernel) (by decide +kernel) (by decide +kernel) (by decide +kernel) (by decide +kernel) (by decide +kernel) hE hK hS hP hD (hl.1.trans hml.symm) dX2_ceilingOver_20 dX2_ceilingOver_23 dX2_ceilingOver_24 dX2_ceilingOver_26 dX2_ceilingOver_29 (by first | exact Nat.le_of_ble_eq_true rfl | (dsimp only [pq_R]; omega)) (by first | exact Nat.le_of_ble_eq_true rfl | (dsimp only [pq_R]; omega))  (by dsimp only [pq_R]; omega) (by dsimp only [pq_R]; omega) (by omega) (by omega) (⟨rfl, xl_over2 (by omega) hc_1 c_2⟩)

set_option maxHeartbeats 4000000 in
set_option maxRecDepth 100000 in
theorem mX2_spanOf (l : Launch) (D : va_G) (cI : ClassId) (q h a0 a1 a2 a3 a4 a5 g b0 b1 : Nat) (fi la : Nat → Int32) (B : BK) (G : GK) (pr : Int32) (N : Nat) (hfl : l.stackTraces = false) (hN : G.2.2.1 = nI N) (hN1 : 1 ≤ N) (hN2 : N ≤ 64) (x : Int32) : pq_XM l yX2_spanOf wsX2_spanOf 7 121 1 6 D [(cI, .int)] pq_Ev (ppW q h a0 a1 a2 a3 a4 a5 g b0 b1 cI fi la B G pr) [.ref q, .int x] (fun v w1 => ∃ k, x = nI k ∧ 1 ≤ k ∧ k < 128 ∧ v = some (.int (100 * fi k + la k)) ∧ w1 = ppW q h a0 a1 a2 a3 a4 a5 g b0 b1 cI fi la B G pr ∧ cEnt la x = 0) (fun Ex w1 => w1 = ppW q h a0 a1 a2 a3 a4 a5 g b0 b1 cI fi la B G pr ∧ (xn1 (cEnt la x) Ex)) := by
  refine pq_xenter (cc := cX2_spanOf) (maxL := 2) (ret := (some .int)) (by decide) rfl (Nat.le_of_ble_eq_true rfl) ?_
  intro p ev s m args below meth cd A ls Q H locs hx hb hr hml hts hown hlocks hnm hK hP hD hS hA hE hl hQ
  have hl : lv_has ls 2 [(0, .ref q), (1, .int x)] := hl
  have hP : va_P D vwCl [(q, .inr (2, [.ref h, .ref g, .int pr])), (h, .inr (0, [.ref a0, .ref a1, .ref a2, .ref a3, .ref a4, .ref a5, .int B.2.2.2.2.1, .int B.2.2.2.2.2.1, .int B.2.2.2.2.2.2])), (a0, .inl (cI, 128, .inl fi)), (a1, .inl (cI, 128, .inl la)), (a2, .inl (cI, 128, .inl B.1)), (a3, .inl (cI, 128, .inl B.2.1)), (a4, .inl (cI, 128, .inl B.2.2.1)), (a5, .inl (cI, 128, .inl B.2.2.2.1)), (g, .inr (1, [.ref b0, .ref b1, .int G.2.2.1, .int G.2.2.2])), (b0, .inl (cI, 64, .inl G.1)), (b1, .inl (cI, 64, .inl G.2.1))] H := hP
  have hD : va_D A [(q, .inr (2, [.ref h, .ref g, .int pr])), (h, .inr (0, [.ref a0, .ref a1, .ref a2, .ref a3, .ref a4, .ref a5, .int B.2.2.2.2.1, .int B.2.2.2.2.2.1, .int B.2.2.2.2.2.2])), (a0, .inl (cI, 128, .inl fi)), (a1, .inl (cI, 128, .inl la)), (a2, .inl (cI, 128, .inl B.1)), (a3, .inl (cI, 128, .inl B.2.1)), (a4, .inl (cI, 128, .inl B.2.2.1)), (a5, .inl (cI, 128, .inl B.2.2.2.1)), (g, .inr (1, [.ref b0, .ref b1, .int G.2.2.1, .int G.2.2.2])), (b0, .inl (cI, 64, .inl G.1)), (b1, .inl (cI, 64, .inl G.2.1))] := hD
  have hin_X2 : ∀ w ∈ wsX20, w ∈ wsX2_spanOf := by decide +kernel
  have hf_PressedPlains_12 := hts (.fieldLink RX2 12 "PressedPlains" "book" "LPressedPlains$Book;") (by decide +kernel)
  have hin_X0 : ∀ w ∈ wsX00, w ∈ wsX2_spanOf := by decide +kernel
  have hn_98 : (Cond.fieldLinkNest RX2 98 "PressedPlains$Book" "first" "[I" "PressedPlains").before args s = true := va_Nw.use rfl (hE.1.1 _ (List.mem_of_getElem? (i := 1) rfl))
  have hn_101 : (Cond.fieldLinkNest RX2 101 "PressedPlains$Book" "last" "[I" "PressedPlains").before args s = true := va_Nw.use rfl (hE.1.1 _ (List.mem_of_getElem? (i := 2) rfl))
  refine lv_aload_n hx hb dX2_spanOf_0 rfl (lv_at hl 0 rfl) ?_
  refine lv_iload_n hx hb dX2_spanOf_1 rfl (lv_at hl 1 rfl) ?_
  refine px_callV (wr := []) (own := RX2) (nL := 2) (q0 := 0) (ci := 2) [0, 1, 2, 3, 4, 5, 6, 7, 8, 9, 10] [] [.int x] (mX2_requireEntry l D cI q h a0 a1 a2 a3 a4 a5 g b0 b1 fi la B G pr N hfl hN hN1 hN2 x) ⟨hx, hb, hml, hown, hts⟩ (cwV 1 hts gX2_spanOf_X2_requireEntry rfl rfl rfl (by decide +kernel) ⟨by dsimp only [pq_R]; omega, by dsimp only [pq_R]; omega⟩) pq_blE (hE.call hD hS hA [0, 1, 2, 3, 4, 5, 6, 7, 8, 9, 10] rfl) hK hP hD hS hA rfl (by decide) rfl (by decide) (by decide) rfl rfl rfl rfl hl.1 rfl (Nat.le_of_ble_eq_true rfl) dX2_spanOf_2 ⟨by dsimp only [pq_R]; omega, by dsimp only [pq_R]; omega⟩ (fun Ex ce q9 w1 H locs hq hP hD hS hce hcv hcl => ?_) (fun v w1 H locs hq hP hD hS hz => ?_)
  · obtain ⟨rfl, hbad⟩ := hq
    have hP : va_P D vwCl [(q, .inr (2, [.ref h, .ref g, .int pr])), (h, .inr (0, [.ref a0, .ref a1, .ref a2, .ref a3, .ref a4, .ref a5, .int B.2.2.2.2.1, .int B.2.2.2.2.2.1, .int B.2.2.2.2.2.2])), (a0, .inl (cI, 128, .inl fi)), (a1, .inl (cI, 128, .inl la)), (a2, .inl (cI, 128, .inl B.1)), (a3, .inl (cI, 128, .inl B.2.1)), (a4, .inl (cI, 128, .inl B.2.2.1)), (a5, .inl (cI, 128, .inl B.2.2.2.1)), (g, .inr (1, [.ref b0, .ref b1, .int G.2.2.1, .int G.2.2.2])), (b0, .inl (cI, 64, .inl G.1)), (b1, .inl (cI, 64, .inl G.2.1))] H := hP
    have hD : va_D A [(q, .inr (2, [.ref h, .ref g, .int pr])), (h, .inr (0, [.ref a0, .ref a1, .ref a2, .ref a3, .ref a4, .ref a5, .int B.2.2.2.2.1, .int B.2.2.2.2.2.1, .int B.2.2.2.2.2.2])), (a0, .inl (cI, 128, .inl fi)), (a1, .inl (cI, 128, .inl la)), (a2, .inl (cI, 128, .inl B.1)), (a3, .inl (cI, 128, .inl B.2.1)), (a4, .inl (cI, 128, .inl B.2.2.1)), (a5, .inl (cI, 128, .inl B.2.2.2.1)), (g, .inr (1, [.ref b0, .ref b1, .int G.2.2.1, .int G.2.2.2])), (b0, .inl (cI, 64, .inl G.1)), (b1, .inl (cI, 64, .inl G.2.1))] := hD
    exact px_out hQ hlocks hK hS hP hD hce hcv hcl (by omega) (by omega) (⟨rfl, xl_ent hbad⟩)
  obtain ⟨rfl, rfl, hc_1⟩ := hq
  obtain ⟨ke, hke1, hke2, rfl⟩ := entN hc_1
  have hP : va_P D vwCl [(q, .inr (2, [.ref h, .ref g, .int pr])), (h, .inr (0, [.ref a0, .ref a1, .ref a2, .ref a3, .ref a4, .ref a5, .int B.2.2.2.2.1, .int B.2.2.2.2.2.1, .int B.2.2.2.2.2.2])), (a0, .inl (cI, 128, .inl fi)), (a1, .inl (cI, 128, .inl la)), (a2, .inl (cI, 128, .inl B.1)), (a3, .inl (cI, 128, .inl B.2.1)), (a4, .inl (cI, 128, .inl B.2.2.1)), (a5, .inl (cI, 128, .inl B.2.2.2.1)), (g, .inr (1, [.ref b0, .ref b1, .int G.2.2.1, .int G.2.2.2])), (b0, .inl (cI, 64, .inl G.1)), (b1, .inl (cI, 64, .inl G.2.1))] H := hP
  have hD : va_D A [(q, .inr (2, [.ref h, .ref g, .int pr])), (h, .inr (0, [.ref a0, .ref a1, .ref a2, .ref a3, .ref a4, .ref a5, .int B.2.2.2.2.1, .int B.2.2.2.2.2.1, .int B.2.2.2.2.2.2])), (a0, .inl (cI, 128, .inl fi)), (a1, .inl (cI, 128, .inl la)), (a2, .inl (cI, 128, .inl B.1)), (a3, .inl (cI, 128, .inl B.2.1)), (a4, .inl (cI, 128, .inl B.2.2.1)), (a5, .inl (cI, 128, .inl B.2.2.2.1)), (g, .inr (1, [.ref b0, .ref b1, .int G.2.2.1, .int G.2.2.2])), (b0, .inl (cI, 64, .inl G.1)), (b1, .inl (cI, 64, .inl G.2.1))] := hD
  refine W.widen (k := 1) (n := 6) (by omega) (by omega) ?_
  refine W.eq (g2 := F0 m 5 ls []) rfl ?_
  refine lv_bipush (v := 100) hx hb dX2_spanOf_5 (by decide) ?_
  refine lv_aload_n hx hb dX2_spanOf_7 rfl (lv_at hl 0 rfl) ?_
  refine va_get (D := D) (ci := 2) (v := .ref h) (C := RX2) (T := TX2) (N := 3) hx hb hts hin_X2 hown hK hP 0 rfl rfl 0 (by decide) hf_PressedPlains_12 (fun _ h9 => h9) rfl dX2_spanOf_8 ?_
  refine va_getN (D := D) (ci := 0) (v := .ref a0) (C := RX0) (T := TX0) (N := 9) hx hb hts hin_X0 hown hK hP 1 rfl rfl 0 (by decide) hn_98 (fun _ h9 => h9) rfl dX2_spanOf_11 ?_
  refine lv_iload_n hx hb dX2_spanOf_14 rfl (lv_at hl 1 rfl) ?_
  refine pq_iald hx hb hK hP 2 0 rfl rfl ke (by omega) (by decide) dX2_spanOf_15 ?_
  refine lv_imul hx hb dX2_spanOf_16 ?_
  refine lv_aload_n hx hb dX2_spanOf_17 rfl (lv_at hl 0 rfl) ?_
  refine va_get (D := D) (ci := 2) (v := .ref h) (C := RX2) (T := TX2) (N := 3) hx hb hts hin_X2 hown hK hP 0 rfl rfl 0 (by decide) hf_PressedPlains_12 (fun _ h9 => h9) rfl dX2_spanOf_18 ?_
  refine va_getN (D := D) (ci := 0) (v := .ref a1) (C := RX0) (T := TX0) (N := 9) hx hb hts hin_X0 hown hK hP 1 rfl rfl 1 (by decide) hn_101 (fun _ h9 => h9) rfl dX2_spanOf_21 ?_
  refine lv_iload_n hx hb dX2_spanOf_24 rfl (lv_at hl 1 rfl) ?_
  refine pq_iald hx hb hK hP 3 0 rfl rfl ke (by omega) (by decide) dX2_spanOf_25 ?_
  refine lv_iadd hx hb dX2_spanOf_26 ?_
  exact px_iret hQ hx hb hr hlocks hK hS hP hD dX2_spanOf_27 (by omega) (by omega) (⟨ke, rfl, hke1, hke2, rfl, rfl, cl_ent hc_1⟩)

set_option maxHeartbeats 4000000 in
set_option maxRecDepth 100000 in
theorem mX2_greatest (l : Launch) (D : va_G) (cI : ClassId) (q h a0 a1 a2 a3 a4 a5 g b0 b1 : Nat) (fi la : Nat → Int32) (B : BK) (G : GK) (pr : Int32) (N : Nat) (hfl : l.stackTraces = false) (hN : G.2.2.1 = nI N) (hN1 : 1 ≤ N) (hN2 : N ≤ 64) (x : Int32) : pq_XM l yX2_greatest wsX2_greatest 7 121 1 6 D [(cI, .int)] pq_Ev (ppW q h a0 a1 a2 a3 a4 a5 g b0 b1 cI fi la B G pr) [.ref q, .int x] (fun v w1 => ∃ k, x = nI k ∧ 1 ≤ k ∧ k < 128 ∧ v = some (.int (B.1 k)) ∧ w1 = ppW q h a0 a1 a2 a3 a4 a5 g b0 b1 cI fi la B G pr ∧ cEnt la x = 0) (fun Ex w1 => w1 = ppW q h a0 a1 a2 a3 a4 a5 g b0 b1 cI fi la B G pr ∧ (xn1 (cEnt la x) Ex)) := by
  refine pq_xenter (cc := cX2_greatest) (maxL := 2) (ret := (some .int)) (by decide) rfl (Nat.le_of_ble_eq_true rfl) ?_
  intro p ev s m args below meth cd A ls Q H locs hx hb hr hml hts hown hlocks hnm hK hP hD hS hA hE hl hQ
  have hl : lv_has ls 2 [(0, .ref q), (1, .int x)] := hl
  have hP : va_P D vwCl [(q, .inr (2, [.ref h, .ref g, .int pr])), (h, .inr (0, [.ref a0, .ref a1, .ref a2, .ref a3, .ref a4, .ref a5, .int B.2.2.2.2.1, .int B.2.2.2.2.2.1, .int B.2.2.2.2.2.2])), (a0, .inl (cI, 128, .inl fi)), (a1, .inl (cI, 128, .inl la)), (a2, .inl (cI, 128, .inl B.1)), (a3, .inl (cI, 128, .inl B.2.1)), (a4, .inl (cI, 128, .inl B.2.2.1)), (a5, .inl (cI, 128, .inl B.2.2.2.1)), (g, .inr (1, [.ref b0, .ref b1, .int G.2.2.1, .int G.2.2.2])), (b0, .inl (cI, 64, .inl G.1)), (b1, .inl (cI, 64, .inl G.2.1))] H := hP
  have hD : va_D A [(q, .inr (2, [.ref h, .ref g, .int pr])), (h, .inr (0, [.ref a0, .ref a1, .ref a2, .ref a3, .ref a4, .ref a5, .int B.2.2.2.2.1, .int B.2.2.2.2.2.1, .int B.2.2.2.2.2.2])), (a0, .inl (cI, 128, .inl fi)), (a1, .inl (cI, 128, .inl la)), (a2, .inl (cI, 128, .inl B.1)), (a3, .inl (cI, 128, .inl B.2.1)), (a4, .inl (cI, 128, .inl B.2.2.1)), (a5, .inl (cI, 128, .inl B.2.2.2.1)), (g, .inr (1, [.ref b0, .ref b1, .int G.2.2.1, .int G.2.2.2])), (b0, .inl (cI, 64, .inl G.1)), (b1, .inl (cI, 64, .inl G.2.1))] := hD
  have hin_X2 : ∀ w ∈ wsX20, w ∈ wsX2_greatest := by decide +kernel
  have hf_PressedPlains_12 := hts (.fieldLink RX2 12 "PressedPlains" "book" "LPressedPlains$Book;") (by decide +kernel)
  have hin_X0 : ∀ w ∈ wsX00, w ∈ wsX2_greatest := by decide +kernel
  have hn_104 : (Cond.fieldLinkNest RX2 104 "PressedPlains$Book" "greatest" "[I" "PressedPlains").before args s = true := va_Nw.use rfl (hE.1.1 _ (List.mem_of_getElem? (i := 3) rfl))
  refine lv_aload_n hx hb dX2_greatest_0 rfl (lv_at hl 0 rfl) ?_
  refine lv_iload_n hx hb dX2_greatest_1 rfl (lv_at hl 1 rfl) ?_
  refine px_callV (wr := []) (own := RX2) (nL := 2) (q0 := 0) (ci := 2) [0, 1, 2, 3, 4, 5, 6, 7, 8, 9, 10] [] [.int x] (mX2_requireEntry l D cI q h a0 a1 a2 a3 a4 a5 g b0 b1 fi la B G pr N hfl hN hN1 hN2 x) ⟨hx, hb, hml, hown, hts⟩ (cwV 1 hts gX2_greatest_X2_requireEntry rfl rfl rfl (by decide +kernel) ⟨by dsimp only [pq_R]; omega, by dsimp only [pq_R]; omega⟩) pq_blE (hE.call hD hS hA [0, 1, 2, 3, 4, 5, 6, 7, 8, 9, 10] rfl) hK hP hD hS hA rfl (by decide) rfl (by decide) (by decide) rfl rfl rfl rfl hl.1 rfl (Nat.le_of_ble_eq_true rfl) dX2_greatest_2 ⟨by dsimp only [pq_R]; omega, by dsimp only [pq_R]; omega⟩ (fun Ex ce q9 w1 H locs hq hP hD hS hce hcv hcl => ?_) (fun v w1 H locs hq hP hD hS hz => ?_)
  · obtain ⟨rfl, hbad⟩ := hq
    have hP : va_P D vwCl [(q, .inr (2, [.ref h, .ref g, .int pr])), (h, .inr (0, [.ref a0, .ref a1, .ref a2, .ref a3, .ref a4, .ref a5, .int B.2.2.2.2.1, .int B.2.2.2.2.2.1, .int B.2.2.2.2.2.2])), (a0, .inl (cI, 128, .inl fi)), (a1, .inl (cI, 128, .inl la)), (a2, .inl (cI, 128, .inl B.1)), (a3, .inl (cI, 128, .inl B.2.1)), (a4, .inl (cI, 128, .inl B.2.2.1)), (a5, .inl (cI, 128, .inl B.2.2.2.1)), (g, .inr (1, [.ref b0, .ref b1, .int G.2.2.1, .int G.2.2.2])), (b0, .inl (cI, 64, .inl G.1)), (b1, .inl (cI, 64, .inl G.2.1))] H := hP
    have hD : va_D A [(q, .inr (2, [.ref h, .ref g, .int pr])), (h, .inr (0, [.ref a0, .ref a1, .ref a2, .ref a3, .ref a4, .ref a5, .int B.2.2.2.2.1, .int B.2.2.2.2.2.1, .int B.2.2.2.2.2.2])), (a0, .inl (cI, 128, .inl fi)), (a1, .inl (cI, 128, .inl la)), (a2, .inl (cI, 128, .inl B.1)), (a3, .inl (cI, 128, .inl B.2.1)), (a4, .inl (cI, 128, .inl B.2.2.1)), (a5, .inl (cI, 128, .inl B.2.2.2.1)), (g, .inr (1, [.ref b0, .ref b1, .int G.2.2.1, .int G.2.2.2])), (b0, .inl (cI, 64, .inl G.1)), (b1, .inl (cI, 64, .inl G.2.1))] := hD
    exact px_out hQ hlocks hK hS hP hD hce hcv hcl (by omega) (by omega) (⟨rfl, xl_ent hbad⟩)
  obtain ⟨rfl, rfl, hc_1⟩ := hq
  obtain ⟨ke, hke1, hke2, rfl⟩ := entN hc_1
  have hP : va_P D vwCl [(q, .inr (2, [.ref h, .ref g, .int pr])), (h, .inr (0, [.ref a0, .ref a1, .ref a2, .ref a3, .ref a4, .ref a5, .int B.2.2.2.2.1, .int B.2.2.2.2.2.1, .int B.2.2.2.2.2.2])), (a0, .inl (cI, 128, .inl fi)), (a1, .inl (cI, 128, .inl la)), (a2, .inl (cI, 128, .inl B.1)), (a3, .inl (cI, 128, .inl B.2.1)), (a4, .inl (cI, 128, .inl B.2.2.1)), (a5, .inl (cI, 128, .inl B.2.2.2.1)), (g, .inr (1, [.ref b0, .ref b1, .int G.2.2.1, .int G.2.2.2])), (b0, .inl (cI, 64, .inl G.1)), (b1, .inl (cI, 64, .inl G.2.1))] H := hP
  have hD : va_D A [(q, .inr (2, [.ref h, .ref g, .int pr])), (h, .inr (0, [.ref a0, .ref a1, .ref a2, .ref a3, .ref a4, .ref a5, .int B.2.2.2.2.1, .int B.2.2.2.2.2.1, .int B.2.2.2.2.2.2])), (a0, .inl (cI, 128, .inl fi)), (a1, .inl (cI, 128, .inl la)), (a2, .inl (cI, 128, .inl B.1)), (a3, .inl (cI, 128, .inl B.2.1)), (a4, .inl (cI, 128, .inl B.2.2.1)), (a5, .inl (cI, 128, .inl B.2.2.2.1)), (g, .inr (1, [.ref b0, .ref b1, .int G.2.2.1, .int G.2.2.2])), (b0, .inl (cI, 64, .inl G.1)), (b1, .inl (cI, 64, .inl G.2.1))] := hD
  refine W.widen (k := 1) (n := 6) (by omega) (by omega) ?_
  refine W.eq (g2 := F0 m 5 ls []) rfl ?_
  refine lv_aload_n hx hb dX2_greatest_5 rfl (lv_at hl 0 rfl) ?_
  refine va_get (D := D) (ci := 2) (v := .ref h) (C := RX2) (T := TX2) (N := 3) hx hb hts hin_X2 hown hK hP 0 rfl rfl 0 (by decide) hf_PressedPlains_12 (fun _ h9 => h9) rfl dX2_greatest_6 ?_
  refine va_getN (D := D) (ci := 0) (v := .ref a2) (C := RX0) (T := TX0) (N := 9) hx hb hts hin_X0 hown hK hP 1 rfl rfl 2 (by decide) hn_104 (fun _ h9 => h9) rfl dX2_greatest_9 ?_
  refine lv_iload_n hx hb dX2_greatest_12 rfl (lv_at hl 1 rfl) ?_
  refine pq_iald hx hb hK hP 4 0 rfl rfl ke (by omega) (by decide) dX2_greatest_13 ?_
  exact px_iret hQ hx hb hr hlocks hK hS hP hD dX2_greatest_14 (by omega) (by omega) (⟨ke, rfl, hke1, hke2, rfl, rfl, cl_ent hc_1⟩)

set_option maxHeartbeats 4000000 in
set_option maxRecDepth 100000 in
theorem mX2_second (l : Launch) (D : va_G) (cI : ClassId) (q h a0 a1 a2 a3 a4 a5 g b0 b1 : Nat) (fi la : Nat → Int32) (B : BK) (G : GK) (pr : Int32) (N : Nat) (hfl : l.stackTraces = false) (hN : G.2.2.1 = nI N) (hN1 : 1 ≤ N) (hN2 : N ≤ 64) (x : Int32) : pq_XM l yX2_second wsX2_second 7 121 1 6 D [(cI, .int)] pq_Ev (ppW q h a0 a1 a2 a3 a4 a5 g b0 b1 cI fi la B G pr) [.ref q, .int x] (fun v w1 => ∃ k, x = nI k ∧ 1 ≤ k ∧ k < 128 ∧ v = some (.int (B.2.1 k)) ∧ w1 = ppW q h a0 a1 a2 a3 a4 a5 g b0 b1 cI fi la B G pr ∧ cEnt la x = 0) (fun Ex w1 => w1 = ppW q h a0 a1 a2 a3 a4 a5 g b0 b1 cI fi la B G pr ∧ (xn1 (cEnt la x) Ex)) := by
  refine pq_xenter (cc := cX2_second) (maxL := 2) (ret := (some .int)) (by decide) rfl (Nat.le_of_ble_eq_true rfl) ?_
  intro p ev s m args below meth cd A ls Q H locs hx hb hr hml hts hown hlocks hnm hK hP hD hS hA hE hl hQ
  have hl : lv_has ls 2 [(0, .ref q), (1, .int x)] := hl
  have hP : va_P D vwCl [(q, .inr (2, [.ref h, .ref g, .int pr])), (h, .inr (0, [.ref a0, .ref a1, .ref a2, .ref a3, .ref a4, .ref a5, .int B.2.2.2.2.1, .int B.2.2.2.2.2.1, .int B.2.2.2.2.2.2])), (a0, .inl (cI, 128, .inl fi)), (a1, .inl (cI, 128, .inl la)), (a2, .inl (cI, 128, .inl B.1)), (a3, .inl (cI, 128, .inl B.2.1)), (a4, .inl (cI, 128, .inl B.2.2.1)), (a5, .inl (cI, 128, .inl B.2.2.2.1)), (g, .inr (1, [.ref b0, .ref b1, .int G.2.2.1, .int G.2.2.2])), (b0, .inl (cI, 64, .inl G.1)), (b1, .inl (cI, 64, .inl G.2.1))] H := hP
  have hD : va_D A [(q, .inr (2, [.ref h, .ref g, .int pr])), (h, .inr (0, [.ref a0, .ref a1, .ref a2, .ref a3, .ref a4, .ref a5, .int B.2.2.2.2.1, .int B.2.2.2.2.2.1, .int B.2.2.2.2.2.2])), (a0, .inl (cI, 128, .inl fi)), (a1, .inl (cI, 128, .inl la)), (a2, .inl (cI, 128, .inl B.1)), (a3, .inl (cI, 128, .inl B.2.1)), (a4, .inl (cI, 128, .inl B.2.2.1)), (a5, .inl (cI, 128, .inl B.2.2.2.1)), (g, .inr (1, [.ref b0, .ref b1, .int G.2.2.1, .int G.2.2.2])), (b0, .inl (cI, 64, .inl G.1)), (b1, .inl (cI, 64, .inl G.2.1))] := hD
  have hin_X2 : ∀ w ∈ wsX20, w ∈ wsX2_second := by decide +kernel
  have hf_PressedPlains_12 := hts (.fieldLink RX2 12 "PressedPlains" "book" "LPressedPlains$Book;") (by decide +kernel)
  have hin_X0 : ∀ w ∈ wsX00, w ∈ wsX2_second := by decide +kernel
  have hn_107 : (Cond.fieldLinkNest RX2 107 "PressedPlains$Book" "second" "[I" "PressedPlains").before args s = true := va_Nw.use rfl (hE.1.1 _ (List.mem_of_getElem? (i := 4) rfl))
  refine lv_aload_n hx hb dX2_second_0 rfl (lv_at hl 0 rfl) ?_
  refine lv_iload_n hx hb dX2_second_1 rfl (lv_at hl 1 rfl) ?_
  refine px_callV (wr := []) (own := RX2) (nL := 2) (q0 := 0) (ci := 2) [0, 1, 2, 3, 4, 5, 6, 7, 8, 9, 10] [] [.int x] (mX2_requireEntry l D cI q h a0 a1 a2 a3 a4 a5 g b0 b1 fi la B G pr N hfl hN hN1 hN2 x) ⟨hx, hb, hml, hown, hts⟩ (cwV 1 hts gX2_second_X2_requireEntry rfl rfl rfl (by decide +kernel) ⟨by dsimp only [pq_R]; omega, by dsimp only [pq_R]; omega⟩) pq_blE (hE.call hD hS hA [0, 1, 2, 3, 4, 5, 6, 7, 8, 9, 10] rfl) hK hP hD hS hA rfl (by decide) rfl (by decide) (by decide) rfl rfl rfl rfl hl.1 rfl (Nat.le_of_ble_eq_true rfl) dX2_second_2 ⟨by dsimp only [pq_R]; omega, by dsimp only [pq_R]; omega⟩ (fun Ex ce q9 w1 H locs hq hP hD hS hce hcv hcl => ?_) (fun v w1 H locs hq hP hD hS hz => ?_)
  · obtain ⟨rfl, hbad⟩ := hq
    have hP : va_P D vwCl [(q, .inr (2, [.ref h, .ref g, .int pr])), (h, .inr (0, [.ref a0, .ref a1, .ref a2, .ref a3, .ref a4, .ref a5, .int B.2.2.2.2.1, .int B.2.2.2.2.2.1, .int B.2.2.2.2.2.2])), (a0, .inl (cI, 128, .inl fi)), (a1, .inl (cI, 128, .inl la)), (a2, .inl (cI, 128, .inl B.1)), (a3, .inl (cI, 128, .inl B.2.1)), (a4, .inl (cI, 128, .inl B.2.2.1)), (a5, .inl (cI, 128, .inl B.2.2.2.1)), (g, .inr (1, [.ref b0, .ref b1, .int G.2.2.1, .int G.2.2.2])), (b0, .inl (cI, 64, .inl G.1)), (b1, .inl (cI, 64, .inl G.2.1))] H := hP
    have hD : va_D A [(q, .inr (2, [.ref h, .ref g, .int pr])), (h, .inr (0, [.ref a0, .ref a1, .ref a2, .ref a3, .ref a4, .ref a5, .int B.2.2.2.2.1, .int B.2.2.2.2.2.1, .int B.2.2.2.2.2.2])), (a0, .inl (cI, 128, .inl fi)), (a1, .inl (cI, 128, .inl la)), (a2, .inl (cI, 128, .inl B.1)), (a3, .inl (cI, 128, .inl B.2.1)), (a4, .inl (cI, 128, .inl B.2.2.1)), (a5, .inl (cI, 128, .inl B.2.2.2.1)), (g, .inr (1, [.ref b0, .ref b1, .int G.2.2.1, .int G.2.2.2])), (b0, .inl (cI, 64, .inl G.1)), (b1, .inl (cI, 64, .inl G.2.1))] := hD
    exact px_out hQ hlocks hK hS hP hD hce hcv hcl (by omega) (by omega) (⟨rfl, xl_ent hbad⟩)
  obtain ⟨rfl, rfl, hc_1⟩ := hq
  obtain ⟨ke, hke1, hke2, rfl⟩ := entN hc_1
  have hP : va_P D vwCl [(q, .inr (2, [.ref h, .ref g, .int pr])), (h, .inr (0, [.ref a0, .ref a1, .ref a2, .ref a3, .ref a4, .ref a5, .int B.2.2.2.2.1, .int B.2.2.2.2.2.1, .int B.2.2.2.2.2.2])), (a0, .inl (cI, 128, .inl fi)), (a1, .inl (cI, 128, .inl la)), (a2, .inl (cI, 128, .inl B.1)), (a3, .inl (cI, 128, .inl B.2.1)), (a4, .inl (cI, 128, .inl B.2.2.1)), (a5, .inl (cI, 128, .inl B.2.2.2.1)), (g, .inr (1, [.ref b0, .ref b1, .int G.2.2.1, .int G.2.2.2])), (b0, .inl (cI, 64, .inl G.1)), (b1, .inl (cI, 64, .inl G.2.1))] H := hP
  have hD : va_D A [(q, .inr (2, [.ref h, .ref g, .int pr])), (h, .inr (0, [.ref a0, .ref a1, .ref a2, .ref a3, .ref a4, .ref a5, .int B.2.2.2.2.1, .int B.2.2.2.2.2.1, .int B.2.2.2.2.2.2])), (a0, .inl (cI, 128, .inl fi)), (a1, .inl (cI, 128, .inl la)), (a2, .inl (cI, 128, .inl B.1)), (a3, .inl (cI, 128, .inl B.2.1)), (a4, .inl (cI, 128, .inl B.2.2.1)), (a5, .inl (cI, 128, .inl B.2.2.2.1)), (g, .inr (1, [.ref b0, .ref b1, .int G.2.2.1, .int G.2.2.2])), (b0, .inl (cI, 64, .inl G.1)), (b1, .inl (cI, 64, .inl G.2.1))] := hD
  refine W.widen (k := 1) (n := 6) (by omega) (by omega) ?_
  refine W.eq (g2 := F0 m 5 ls []) rfl ?_
  refine lv_aload_n hx hb dX2_second_5 rfl (lv_at hl 0 rfl) ?_
  refine va_get (D := D) (ci := 2) (v := .ref h) (C := RX2) (T := TX2) (N := 3) hx hb hts hin_X2 hown hK hP 0 rfl rfl 0 (by decide) hf_PressedPlains_12 (fun _ h9 => h9) rfl dX2_second_6 ?_
  refine va_getN (D := D) (ci := 0) (v := .ref a3) (C := RX0) (T := TX0) (N := 9) hx hb hts hin_X0 hown hK hP 1 rfl rfl 3 (by decide) hn_107 (fun _ h9 => h9) rfl dX2_second_9 ?_
  refine lv_iload_n hx hb dX2_second_12 rfl (lv_at hl 1 rfl) ?_
  refine pq_iald hx hb hK hP 5 0 rfl rfl ke (by omega) (by decide) dX2_second_13 ?_
  exact px_iret hQ hx hb hr hlocks hK hS hP hD dX2_second_14 (by omega) (by omega) (⟨ke, rfl, hke1, hke2, rfl, rfl, cl_ent hc_1⟩)

set_option maxHeartbeats 4000000 in
set_option maxRecDepth 100000 in
theorem mX2_many (l : Launch) (D : va_G) (cI : ClassId) (q h a0 a1 a2 a3 a4 a5 g b0 b1 : Nat) (fi la : Nat → Int32) (B : BK) (G : GK) (pr : Int32) (N : Nat) (hfl : l.stackTraces = false) (hN : G.2.2.1 = nI N) (hN1 : 1 ≤ N) (hN2 : N ≤ 64) (x : Int32) : pq_XM l yX2_many wsX2_many 7 121 1 6 D [(cI, .int)] pq_Ev (ppW q h a0 a1 a2 a3 a4 a5 g b0 b1 cI fi la B G pr) [.ref q, .int x] (fun v w1 => ∃ k, x = nI k ∧ 1 ≤ k ∧ k < 128 ∧ v = some (.int (B.2.2.1 k)) ∧ w1 = ppW q h a0 a1 a2 a3 a4 a5 g b0 b1 cI fi la B G pr ∧ cEnt la x = 0) (fun Ex w1 => w1 = ppW q h a0 a1 a2 a3 a4 a5 g b0 b1 cI fi la B G pr ∧ (xn1 (cEnt la x) Ex)) := by
  refine pq_xenter (cc := cX2_many) (maxL := 2) (ret := (some .int)) (by decide) rfl (Nat.le_of_ble_eq_true rfl) ?_
  intro p ev s m args below meth cd A ls Q H locs hx hb hr hml hts hown hlocks hnm hK hP hD hS hA hE hl hQ
  have hl : lv_has ls 2 [(0, .ref q), (1, .int x)] := hl
  have hP : va_P D vwCl [(q, .inr (2, [.ref h, .ref g, .int pr])), (h, .inr (0, [.ref a0, .ref a1, .ref a2, .ref a3, .ref a4, .ref a5, .int B.2.2.2.2.1, .int B.2.2.2.2.2.1, .int B.2.2.2.2.2.2])), (a0, .inl (cI, 128, .inl fi)), (a1, .inl (cI, 128, .inl la)), (a2, .inl (cI, 128, .inl B.1)), (a3, .inl (cI, 128, .inl B.2.1)), (a4, .inl (cI, 128, .inl B.2.2.1)), (a5, .inl (cI, 128, .inl B.2.2.2.1)), (g, .inr (1, [.ref b0, .ref b1, .int G.2.2.1, .int G.2.2.2])), (b0, .inl (cI, 64, .inl G.1)), (b1, .inl (cI, 64, .inl G.2.1))] H := hP
  have hD : va_D A [(q, .inr (2, [.ref h, .ref g, .int pr])), (h, .inr (0, [.ref a0, .ref a1, .ref a2, .ref a3, .ref a4, .ref a5, .int B.2.2.2.2.1, .int B.2.2.2.2.2.1, .int B.2.2.2.2.2.2])), (a0, .inl (cI, 128, .inl fi)), (a1, .inl (cI, 128, .inl la)), (a2, .inl (cI, 128, .inl B.1)), (a3, .inl (cI, 128, .inl B.2.1)), (a4, .inl (cI, 128, .inl B.2.2.1)), (a5, .inl (cI, 128, .inl B.2.2.2.1)), (g, .inr (1, [.ref b0, .ref b1, .int G.2.2.1, .int G.2.2.2])), (b0, .inl (cI, 64, .inl G.1)), (b1, .inl (cI, 64, .inl G.2.1))] := hD
  have hin_X2 : ∀ w ∈ wsX20, w ∈ wsX2_many := by decide +kernel
  have hf_PressedPlains_12 := hts (.fieldLink RX2 12 "PressedPlains" "book" "LPressedPlains$Book;") (by decide +kernel)
  have hin_X0 : ∀ w ∈ wsX00, w ∈ wsX2_many := by decide +kernel
  have hn_110 : (Cond.fieldLinkNest RX2 110 "PressedPlains$Book" "many" "[I" "PressedPlains").before args s = true := va_Nw.use rfl (hE.1.1 _ (List.mem_of_getElem? (i := 5) rfl))
  refine lv_aload_n hx hb dX2_many_0 rfl (lv_at hl 0 rfl) ?_
  refine lv_iload_n hx hb dX2_many_1 rfl (lv_at hl 1 rfl) ?_
  refine px_callV (wr := []) (own := RX2) (nL := 2) (q0 := 0) (ci := 2) [0, 1, 2, 3, 4, 5, 6, 7, 8, 9, 10] [] [.int x] (mX2_requireEntry l D cI q h a0 a1 a2 a3 a4 a5 g b0 b1 fi la B G pr N hfl hN hN1 hN2 x) ⟨hx, hb, hml, hown, hts⟩ (cwV 1 hts gX2_many_X2_requireEntry rfl rfl rfl (by decide +kernel) ⟨by dsimp only [pq_R]; omega, by dsimp only [pq_R]; omega⟩) pq_blE (hE.call hD hS hA [0, 1, 2, 3, 4, 5, 6, 7, 8, 9, 10] rfl) hK hP hD hS hA rfl (by decide) rfl (by decide) (by decide) rfl rfl rfl rfl hl.1 rfl (Nat.le_of_ble_eq_true rfl) dX2_many_2 ⟨by dsimp only [pq_R]; omega, by dsimp only [pq_R]; omega⟩ (fun Ex ce q9 w1 H locs hq hP hD hS hce hcv hcl => ?_) (fun v w1 H locs hq hP hD hS hz => ?_)
  · obtain ⟨rfl, hbad⟩ := hq
    have hP : va_P D vwCl [(q, .inr (2, [.ref h, .ref g, .int pr])), (h, .inr (0, [.ref a0, .ref a1, .ref a2, .ref a3, .ref a4, .ref a5, .int B.2.2.2.2.1, .int B.2.2.2.2.2.1, .int B.2.2.2.2.2.2])), (a0, .inl (cI, 128, .inl fi)), (a1, .inl (cI, 128, .inl la)), (a2, .inl (cI, 128, .inl B.1)), (a3, .inl (cI, 128, .inl B.2.1)), (a4, .inl (cI, 128, .inl B.2.2.1)), (a5, .inl (cI, 128, .inl B.2.2.2.1)), (g, .inr (1, [.ref b0, .ref b1, .int G.2.2.1, .int G.2.2.2])), (b0, .inl (cI, 64, .inl G.1)), (b1, .inl (cI, 64, .inl G.2.1))] H := hP
    have hD : va_D A [(q, .inr (2, [.ref h, .ref g, .int pr])), (h, .inr (0, [.ref a0, .ref a1, .ref a2, .ref a3, .ref a4, .ref a5, .int B.2.2.2.2.1, .int B.2.2.2.2.2.1, .int B.2.2.2.2.2.2])), (a0, .inl (cI, 128, .inl fi)), (a1, .inl (cI, 128, .inl la)), (a2, .inl (cI, 128, .inl B.1)), (a3, .inl (cI, 128, .inl B.2.1)), (a4, .inl (cI, 128, .inl B.2.2.1)), (a5, .inl (cI, 128, .inl B.2.2.2.1)), (g, .inr (1, [.ref b0, .ref b1, .int G.2.2.1, .int G.2.2.2])), (b0, .inl (cI, 64, .inl G.1)), (b1, .inl (cI, 64, .inl G.2.1))] := hD
    exact px_out hQ hlocks hK hS hP hD hce hcv hcl (by omega) (by omega) (⟨rfl, xl_ent hbad⟩)
  obtain ⟨rfl, rfl, hc_1⟩ := hq
  obtain ⟨ke, hke1, hke2, rfl⟩ := entN hc_1
  have hP : va_P D vwCl [(q, .inr (2, [.ref h, .ref g, .int pr])), (h, .inr (0, [.ref a0, .ref a1, .ref a2, .ref a3, .ref a4, .ref a5, .int B.2.2.2.2.1, .int B.2.2.2.2.2.1, .int B.2.2.2.2.2.2])), (a0, .inl (cI, 128, .inl fi)), (a1, .inl (cI, 128, .inl la)), (a2, .inl (cI, 128, .inl B.1)), (a3, .inl (cI, 128, .inl B.2.1)), (a4, .inl (cI, 128, .inl B.2.2.1)), (a5, .inl (cI, 128, .inl B.2.2.2.1)), (g, .inr (1, [.ref b0, .ref b1, .int G.2.2.1, .int G.2.2.2])), (b0, .inl (cI, 64, .inl G.1)), (b1, .inl (cI, 64, .inl G.2.1))] H := hP
  have hD : va_D A [(q, .inr (2, [.ref h, .ref g, .int pr])), (h, .inr (0, [.ref a0, .ref a1, .ref a2, .ref a3, .ref a4, .ref a5, .int B.2.2.2.2.1, .int B.2.2.2.2.2.1, .int B.2.2.2.2.2.2])), (a0, .inl (cI, 128, .inl fi)), (a1, .inl (cI, 128, .inl la)), (a2, .inl (cI, 128, .inl B.1)), (a3, .inl (cI, 128, .inl B.2.1)), (a4, .inl (cI, 128, .inl B.2.2.1)), (a5, .inl (cI, 128, .inl B.2.2.2.1)), (g, .inr (1, [.ref b0, .ref b1, .int G.2.2.1, .int G.2.2.2])), (b0, .inl (cI, 64, .inl G.1)), (b1, .inl (cI, 64, .inl G.2.1))] := hD
  refine W.widen (k := 1) (n := 6) (by omega) (by omega) ?_
  refine W.eq (g2 := F0 m 5 ls []) rfl ?_
  refine lv_aload_n hx hb dX2_many_5 rfl (lv_at hl 0 rfl) ?_
  refine va_get (D := D) (ci := 2) (v := .ref h) (C := RX2) (T := TX2) (N := 3) hx hb hts hin_X2 hown hK hP 0 rfl rfl 0 (by decide) hf_PressedPlains_12 (fun _ h9 => h9) rfl dX2_many_6 ?_
  refine va_getN (D := D) (ci := 0) (v := .ref a4) (C := RX0) (T := TX0) (N := 9) hx hb hts hin_X0 hown hK hP 1 rfl rfl 4 (by decide) hn_110 (fun _ h9 => h9) rfl dX2_many_9 ?_
  refine lv_iload_n hx hb dX2_many_12 rfl (lv_at hl 1 rfl) ?_
  refine pq_iald hx hb hK hP 6 0 rfl rfl ke (by omega) (by decide) dX2_many_13 ?_
  exact px_iret hQ hx hb hr hlocks hK hS hP hD dX2_many_14 (by omega) (by omega) (⟨ke, rfl, hke1, hke2, rfl, rfl, cl_ent hc_1⟩)

set_option maxHeartbeats 4000000 in
set_option maxRecDepth 100000 in
theorem mX2_noted (l : Launch) (D : va_G) (cI : ClassId) (q h a0 a1 a2 a3 a4 a5 g b0 b1 : Nat) (fi la : Nat → Int32) (B : BK) (G : GK) (pr : Int32) (N : Nat) (hfl : l.stackTraces = false) (hN : G.2.2.1 = nI N) (hN1 : 1 ≤ N) (hN2 : N ≤ 64) (x : Int32) : pq_XM l yX2_noted wsX2_noted 7 121 1 6 D [(cI, .int)] pq_Ev (ppW q h a0 a1 a2 a3 a4 a5 g b0 b1 cI fi la B G pr) [.ref q, .int x] (fun v w1 => ∃ k, x = nI k ∧ 1 ≤ k ∧ k < 128 ∧ v = some (.int (B.2.2.2.1 k)) ∧ w1 = ppW q h a0 a1 a2 a3 a4 a5 g b0 b1 cI fi la B G pr ∧ cEnt la x = 0) (fun Ex w1 => w1 = ppW q h a0 a1 a2 a3 a4 a5 g b0 b1 cI fi la B G pr ∧ (xn1 (cEnt la x) Ex)) := by
  refine pq_xenter (cc := cX2_noted) (maxL := 2) (ret := (some .int)) (by decide) rfl (Nat.le_of_ble_eq_true rfl) ?_
  intro p ev s m args below meth cd A ls Q H locs hx hb hr hml hts hown hlocks hnm hK hP hD hS hA hE hl hQ
  have hl : lv_has ls 2 [(0, .ref q), (1, .int x)] := hl
  have hP : va_P D vwCl [(q, .inr (2, [.ref h, .ref g, .int pr])), (h, .inr (0, [.ref a0, .ref a1, .ref a2, .ref a3, .ref a4, .ref a5, .int B.2.2.2.2.1, .int B.2.2.2.2.2.1, .int B.2.2.2.2.2.2])), (a0, .inl (cI, 128, .inl fi)), (a1, .inl (cI, 128, .inl la)), (a2, .inl (cI, 128, .inl B.1)), (a3, .inl (cI, 128, .inl B.2.1)), (a4, .inl (cI, 128, .inl B.2.2.1)), (a5, .inl (cI, 128, .inl B.2.2.2.1)), (g, .inr (1, [.ref b0, .ref b1, .int G.2.2.1, .int G.2.2.2])), (b0, .inl (cI, 64, .inl G.1)), (b1, .inl (cI, 64, .inl G.2.1))] H := hP
  have hD : va_D A [(q, .inr (2, [.ref h, .ref g, .int pr])), (h, .inr (0, [.ref a0, .ref a1, .ref a2, .ref a3, .ref a4, .ref a5, .int B.2.2.2.2.1, .int B.2.2.2.2.2.1, .int B.2.2.2.2.2.2])), (a0, .inl (cI, 128, .inl fi)), (a1, .inl (cI, 128, .inl la)), (a2, .inl (cI, 128, .inl B.1)), (a3, .inl (cI, 128, .inl B.2.1)), (a4, .inl (cI, 128, .inl B.2.2.1)), (a5, .inl (cI, 128, .inl B.2.2.2.1)), (g, .inr (1, [.ref b0, .ref b1, .int G.2.2.1, .int G.2.2.2])), (b0, .inl (cI, 64, .inl G.1)), (b1, .inl (cI, 64, .inl G.2.1))] := hD
  have hin_X2 : ∀ w ∈ wsX20, w ∈ wsX2_noted := by decide +kernel
  have hf_PressedPlains_12 := hts (.fieldLink RX2 12 "PressedPlains" "book" "LPressedPlains$Book;") (by decide +kernel)
  have hin_X0 : ∀ w ∈ wsX00, w ∈ wsX2_noted := by decide +kernel
  have hn_113 : (Cond.fieldLinkNest RX2 113 "PressedPlains$Book" "sum" "[I" "PressedPlains").before args s = true := va_Nw.use rfl (hE.1.1 _ (List.mem_of_getElem? (i := 6) rfl))
  refine lv_aload_n hx hb dX2_noted_0 rfl (lv_at hl 0 rfl) ?_
  refine lv_iload_n hx hb dX2_noted_1 rfl (lv_at hl 1 rfl) ?_
  refine px_callV (wr := []) (own := RX2) (nL := 2) (q0 := 0) (ci := 2) [0, 1, 2, 3, 4, 5, 6, 7, 8, 9, 10] [] [.int x] (mX2_requireEntry l D cI q h a0 a1 a2 a3 a4 a5 g b0 b1 fi la B G pr N hfl hN hN1 hN2 x) ⟨hx, hb, hml, hown, hts⟩ (cwV 1 hts gX2_noted_X2_requireEntry rfl rfl rfl (by decide +kernel) ⟨by dsimp only [pq_R]; omega, by dsimp only [pq_R]; omega⟩) pq_blE (hE.call hD hS hA [0, 1, 2, 3, 4, 5, 6, 7, 8, 9, 10] rfl) hK hP hD hS hA rfl (by decide) rfl (by decide) (by decide) rfl rfl rfl rfl hl.1 rfl (Nat.le_of_ble_eq_true rfl) dX2_noted_2 ⟨by dsimp only [pq_R]; omega, by dsimp only [pq_R]; omega⟩ (fun Ex ce q9 w1 H locs hq hP hD hS hce hcv hcl => ?_) (fun v w1 H locs hq hP hD hS hz => ?_)
  · obtain ⟨rfl, hbad⟩ := hq
    have hP : va_P D vwCl [(q, .inr (2, [.ref h, .ref g, .int pr])), (h, .inr (0, [.ref a0, .ref a1, .ref a2, .ref a3, .ref a4, .ref a5, .int B.2.2.2.2.1, .int B.2.2.2.2.2.1, .int B.2.2.2.2.2.2])), (a0, .inl (cI, 128, .inl fi)), (a1, .inl (cI, 128, .inl la)), (a2, .inl (cI, 128, .inl B.1)), (a3, .inl (cI, 128, .inl B.2.1)), (a4, .inl (cI, 128, .inl B.2.2.1)), (a5, .inl (cI, 128, .inl B.2.2.2.1)), (g, .inr (1, [.ref b0, .ref b1, .int G.2.2.1, .int G.2.2.2])), (b0, .inl (cI, 64, .inl G.1)), (b1, .inl (cI, 64, .inl G.2.1))] H := hP
    have hD : va_D A [(q, .inr (2, [.ref h, .ref g, .int pr])), (h, .inr (0, [.ref a0, .ref a1, .ref a2, .ref a3, .ref a4, .ref a5, .int B.2.2.2.2.1, .int B.2.2.2.2.2.1, .int B.2.2.2.2.2.2])), (a0, .inl (cI, 128, .inl fi)), (a1, .inl (cI, 128, .inl la)), (a2, .inl (cI, 128, .inl B.1)), (a3, .inl (cI, 128, .inl B.2.1)), (a4, .inl (cI, 128, .inl B.2.2.1)), (a5, .inl (cI, 128, .inl B.2.2.2.1)), (g, .inr (1, [.ref b0, .ref b1, .int G.2.2.1, .int G.2.2.2])), (b0, .inl (cI, 64, .inl G.1)), (b1, .inl (cI, 64, .inl G.2.1))] := hD
    exact px_out hQ hlocks hK hS hP hD hce hcv hcl (by omega) (by omega) (⟨rfl, xl_ent hbad⟩)
  obtain ⟨rfl, rfl, hc_1⟩ := hq
  obtain ⟨ke, hke1, hke2, rfl⟩ := entN hc_1
  have hP : va_P D vwCl [(q, .inr (2, [.ref h, .ref g, .int pr])), (h, .inr (0, [.ref a0, .ref a1, .ref a2, .ref a3, .ref a4, .ref a5, .int B.2.2.2.2.1, .int B.2.2.2.2.2.1, .int B.2.2.2.2.2.2])), (a0, .inl (cI, 128, .inl fi)), (a1, .inl (cI, 128, .inl la)), (a2, .inl (cI, 128, .inl B.1)), (a3, .inl (cI, 128, .inl B.2.1)), (a4, .inl (cI, 128, .inl B.2.2.1)), (a5, .inl (cI, 128, .inl B.2.2.2.1)), (g, .inr (1, [.ref b0, .ref b1, .int G.2.2.1, .int G.2.2.2])), (b0, .inl (cI, 64, .inl G.1)), (b1, .inl (cI, 64, .inl G.2.1))] H := hP
  have hD : va_D A [(q, .inr (2, [.ref h, .ref g, .int pr])), (h, .inr (0, [.ref a0, .ref a1, .ref a2, .ref a3, .ref a4, .ref a5, .int B.2.2.2.2.1, .int B.2.2.2.2.2.1, .int B.2.2.2.2.2.2])), (a0, .inl (cI, 128, .inl fi)), (a1, .inl (cI, 128, .inl la)), (a2, .inl (cI, 128, .inl B.1)), (a3, .inl (cI, 128, .inl B.2.1)), (a4, .inl (cI, 128, .inl B.2.2.1)), (a5, .inl (cI, 128, .inl B.2.2.2.1)), (g, .inr (1, [.ref b0, .ref b1, .int G.2.2.1, .int G.2.2.2])), (b0, .inl (cI, 64, .inl G.1)), (b1, .inl (cI, 64, .inl G.2.1))] := hD
  refine W.widen (k := 1) (n := 6) (by omega) (by omega) ?_
  refine W.eq (g2 := F0 m 5 ls []) rfl ?_
  refine lv_aload_n hx hb dX2_noted_5 rfl (lv_at hl 0 rfl) ?_
  refine va_get (D := D) (ci := 2) (v := .ref h) (C := RX2) (T := TX2) (N := 3) hx hb hts hin_X2 hown hK hP 0 rfl rfl 0 (by decide) hf_PressedPlains_12 (fun _ h9 => h9) rfl dX2_noted_6 ?_
  refine va_getN (D := D) (ci := 0) (v := .ref a5) (C := RX0) (T := TX0) (N := 9) hx hb hts hin_X0 hown hK hP 1 rfl rfl 5 (by decide) hn_113 (fun _ h9 => h9) rfl dX2_noted_9 ?_
  refine lv_iload_n hx hb dX2_noted_12 rfl (lv_at hl 1 rfl) ?_
  refine pq_iald hx hb hK hP 7 0 rfl rfl ke (by omega) (by decide) dX2_noted_13 ?_
  exact px_iret hQ hx hb hr hlocks hK hS hP hD dX2_noted_14 (by omega) (by omega) (⟨ke, rfl, hke1, hke2, rfl, rfl, cl_ent hc_1⟩)

set_option maxHeartbeats 4000000 in
set_option maxRecDepth 100000 in
theorem mX2_columns (l : Launch) (D : va_G) (cI : ClassId) (q h a0 a1 a2 a3 a4 a5 g b0 b1 : Nat) (fi la : Nat → Int32) (B : BK) (G : GK) (pr : Int32) (N : Nat) (hfl : l.stackTraces = false) (hN : G.2.2.1 = nI N) (hN1 : 1 ≤ N) (hN2 : N ≤ 64) : pq_M l yX2_columns wsX2_columns 0 0 0 0 D [(cI, .int)] pq_Ev (ppW q h a0 a1 a2 a3 a4 a5 g b0 b1 cI fi la B G pr) [.ref q] (fun v w1 => v = some (.int (G.2.2.1)) ∧ w1 = ppW q h a0 a1 a2 a3 a4 a5 g b0 b1 cI fi la B G pr) := by
  refine pq_enter (cc := cX2_columns) (maxL := 1) (ret := (some .int)) (by decide) rfl (Nat.le_of_ble_eq_true rfl) ?_
  intro p ev s m args below meth cd A ls Q H locs hx hb hr hml hts hown hlocks hnm hK hP hD hS hA hE hl hQ
  have hl : lv_has ls 1 [(0, .ref q)] := hl
  have hP : va_P D vwCl [(q, .inr (2, [.ref h, .ref g, .int pr])), (h, .inr (0, [.ref a0, .ref a1, .ref a2, .ref a3, .ref a4, .ref a5, .int B.2.2.2.2.1, .int B.2.2.2.2.2.1, .int B.2.2.2.2.2.2])), (a0, .inl (cI, 128, .inl fi)), (a1, .inl (cI, 128, .inl la)), (a2, .inl (cI, 128, .inl B.1)), (a3, .inl (cI, 128, .inl B.2.1)), (a4, .inl (cI, 128, .inl B.2.2.1)), (a5, .inl (cI, 128, .inl B.2.2.2.1)), (g, .inr (1, [.ref b0, .ref b1, .int G.2.2.1, .int G.2.2.2])), (b0, .inl (cI, 64, .inl G.1)), (b1, .inl (cI, 64, .inl G.2.1))] H := hP
  have hD : va_D A [(q, .inr (2, [.ref h, .ref g, .int pr])), (h, .inr (0, [.ref a0, .ref a1, .ref a2, .ref a3, .ref a4, .ref a5, .int B.2.2.2.2.1, .int B.2.2.2.2.2.1, .int B.2.2.2.2.2.2])), (a0, .inl (cI, 128, .inl fi)), (a1, .inl (cI, 128, .inl la)), (a2, .inl (cI, 128, .inl B.1)), (a3, .inl (cI, 128, .inl B.2.1)), (a4, .inl (cI, 128, .inl B.2.2.1)), (a5, .inl (cI, 128, .inl B.2.2.2.1)), (g, .inr (1, [.ref b0, .ref b1, .int G.2.2.1, .int G.2.2.2])), (b0, .inl (cI, 64, .inl G.1)), (b1, .inl (cI, 64, .inl G.2.1))] := hD
  have hin_X2 : ∀ w ∈ wsX20, w ∈ wsX2_columns := by decide +kernel
  have hf_PressedPlains_19 := hts (.fieldLink RX2 19 "PressedPlains" "ground" "LPressedPlains$Ground;") (by decide +kernel)
  have hin_X1 : ∀ w ∈ wsX10, w ∈ wsX2_columns := by decide +kernel
  have hn_92 : (Cond.fieldLinkNest RX2 92 "PressedPlains$Ground" "count" "I" "PressedPlains").before args s = true := va_Nw.use rfl (hE.1.1 _ (List.mem_of_getElem? (i := 13) rfl))
  refine lv_aload_n hx hb dX2_columns_0 rfl (lv_at hl 0 rfl) ?_
  refine va_get (D := D) (ci := 2) (v := .ref g) (C := RX2) (T := TX2) (N := 3) hx hb hts hin_X2 hown hK hP 0 rfl rfl 1 (by decide) hf_PressedPlains_19 (fun _ h9 => h9) rfl dX2_columns_1 ?_
  refine va_getN (D := D) (ci := 1) (v := .int G.2.2.1) (C := RX1) (T := TX1) (N := 4) hx hb hts hin_X1 hown hK hP 8 rfl rfl 2 (by decide) hn_92 (fun _ h9 => h9) rfl dX2_columns_4 ?_
  exact pq_iret hQ hx hb hr hlocks hK hS hP hD dX2_columns_7 (by omega) (by omega) (⟨rfl, rfl⟩)

set_option maxHeartbeats 4000000 in
set_option maxRecDepth 100000 in
theorem mX2_visits (l : Launch) (D : va_G) (cI : ClassId) (q h a0 a1 a2 a3 a4 a5 g b0 b1 : Nat) (fi la : Nat → Int32) (B : BK) (G : GK) (pr : Int32) (N : Nat) (hfl : l.stackTraces = false) (hN : G.2.2.1 = nI N) (hN1 : 1 ≤ N) (hN2 : N ≤ 64) : pq_M l yX2_visits wsX2_visits 0 0 0 0 D [(cI, .int)] pq_Ev (ppW q h a0 a1 a2 a3 a4 a5 g b0 b1 cI fi la B G pr) [.ref q] (fun v w1 => v = some (.int (B.2.2.2.2.1)) ∧ w1 = ppW q h a0 a1 a2 a3 a4 a5 g b0 b1 cI fi la B G pr) := by
  refine pq_enter (cc := cX2_visits) (maxL := 1) (ret := (some .int)) (by decide) rfl (Nat.le_of_ble_eq_true rfl) ?_
  intro p ev s m args below meth cd A ls Q H locs hx hb hr hml hts hown hlocks hnm hK hP hD hS hA hE hl hQ
  have hl : lv_has ls 1 [(0, .ref q)] := hl
  have hP : va_P D vwCl [(q, .inr (2, [.ref h, .ref g, .int pr])), (h, .inr (0, [.ref a0, .ref a1, .ref a2, .ref a3, .ref a4, .ref a5, .int B.2.2.2.2.1, .int B.2.2.2.2.2.1, .int B.2.2.2.2.2.2])), (a0, .inl (cI, 128, .inl fi)), (a1, .inl (cI, 128, .inl la)), (a2, .inl (cI, 128, .inl B.1)), (a3, .inl (cI, 128, .inl B.2.1)), (a4, .inl (cI, 128, .inl B.2.2.1)), (a5, .inl (cI, 128, .inl B.2.2.2.1)), (g, .inr (1, [.ref b0, .ref b1, .int G.2.2.1, .int G.2.2.2])), (b0, .inl (cI, 64, .inl G.1)), (b1, .inl (cI, 64, .inl G.2.1))] H := hP
  have hD : va_D A [(q, .inr (2, [.ref h, .ref g, .int pr])), (h, .inr (0, [.ref a0, .ref a1, .ref a2, .ref a3, .ref a4, .ref a5, .int B.2.2.2.2.1, .int B.2.2.2.2.2.1, .int B.2.2.2.2.2.2])), (a0, .inl (cI, 128, .inl fi)), (a1, .inl (cI, 128, .inl la)), (a2, .inl (cI, 128, .inl B.1)), (a3, .inl (cI, 128, .inl B.2.1)), (a4, .inl (cI, 128, .inl B.2.2.1)), (a5, .inl (cI, 128, .inl B.2.2.2.1)), (g, .inr (1, [.ref b0, .ref b1, .int G.2.2.1, .int G.2.2.2])), (b0, .inl (cI, 64, .inl G.1)), (b1, .inl (cI, 64, .inl G.2.1))] := hD
  have hin_X2 : ∀ w ∈ wsX20, w ∈ wsX2_visits := by decide +kernel
  have hf_PressedPlains_12 := hts (.fieldLink RX2 12 "PressedPlains" "book" "LPressedPlains$Book;") (by decide +kernel)
  have hin_X0 : ∀ w ∈ wsX00, w ∈ wsX2_visits := by decide +kernel
  have hn_120 : (Cond.fieldLinkNest RX2 120 "PressedPlains$Book" "latestVisits" "I" "PressedPlains").before args s = true := va_Nw.use rfl (hE.1.1 _ (List.mem_of_getElem? (i := 7) rfl))
  refine lv_aload_n hx hb dX2_visits_0 rfl (lv_at hl 0 rfl) ?_
  refine va_get (D := D) (ci := 2) (v := .ref h) (C := RX2) (T := TX2) (N := 3) hx hb hts hin_X2 hown hK hP 0 rfl rfl 0 (by decide) hf_PressedPlains_12 (fun _ h9 => h9) rfl dX2_visits_1 ?_
  refine va_getN (D := D) (ci := 0) (v := .int B.2.2.2.2.1) (C := RX0) (T := TX0) (N := 9) hx hb hts hin_X0 hown hK hP 1 rfl rfl 6 (by decide) hn_120 (fun _ h9 => h9) rfl dX2_visits_4 ?_
  exact pq_iret hQ hx hb hr hlocks hK hS hP hD dX2_visits_7 (by omega) (by omega) (⟨rfl, rfl⟩)

set_option maxHeartbeats 4000000 in
set_option maxRecDepth 100000 in
theorem mX2_allVisits (l : Launch) (D : va_G) (cI : ClassId) (q h a0 a1 a2 a3 a4 a5 g b0 b1 : Nat) (fi la : Nat → Int32) (B : BK) (G : GK) (pr : Int32) (N : Nat) (hfl : l.stackTraces = false) (hN : G.2.2.1 = nI N) (hN1 : 1 ≤ N) (hN2 : N ≤ 64) : pq_M l yX2_allVisits wsX2_allVisits 0 0 0 0 D [(cI, .int)] pq_Ev (ppW q h a0 a1 a2 a3 a4 a5 g b0 b1 cI fi la B G pr) [.ref q] (fun v w1 => v = some (.int (B.2.2.2.2.2.1)) ∧ w1 = ppW q h a0 a1 a2 a3 a4 a5 g b0 b1 cI fi la B G pr) := by
  refine pq_enter (cc := cX2_allVisits) (maxL := 1) (ret := (some .int)) (by decide) rfl (Nat.le_of_ble_eq_true rfl) ?_
  intro p ev s m args below meth cd A ls Q H locs hx hb hr hml hts hown hlocks hnm hK hP hD hS hA hE hl hQ
  have hl : lv_has ls 1 [(0, .ref q)] := hl
  have hP : va_P D vwCl [(q, .inr (2, [.ref h, .ref g, .int pr])), (h, .inr (0, [.ref a0, .ref a1, .ref a2, .ref a3, .ref a4, .ref a5, .int B.2.2.2.2.1, .int B.2.2.2.2.2.1, .int B.2.2.2.2.2.2])), (a0, .inl (cI, 128, .inl fi)), (a1, .inl (cI, 128, .inl la)), (a2, .inl (cI, 128, .inl B.1)), (a3, .inl (cI, 128, .inl B.2.1)), (a4, .inl (cI, 128, .inl B.2.2.1)), (a5, .inl (cI, 128, .inl B.2.2.2.1)), (g, .inr (1, [.ref b0, .ref b1, .int G.2.2.1, .int G.2.2.2])), (b0, .inl (cI, 64, .inl G.1)), (b1, .inl (cI, 64, .inl G.2.1))] H := hP
  have hD : va_D A [(q, .inr (2, [.ref h, .ref g, .int pr])), (h, .inr (0, [.ref a0, .ref a1, .ref a2, .ref a3, .ref a4, .ref a5, .int B.2.2.2.2.1, .int B.2.2.2.2.2.1, .int B.2.2.2.2.2.2])), (a0, .inl (cI, 128, .inl fi)), (a1, .inl (cI, 128, .inl la)), (a2, .inl (cI, 128, .inl B.1)), (a3, .inl (cI, 128, .inl B.2.1)), (a4, .inl (cI, 128, .inl B.2.2.1)), (a5, .inl (cI, 128, .inl B.2.2.2.1)), (g, .inr (1, [.ref b0, .ref b1, .int G.2.2.1, .int G.2.2.2])), (b0, .inl (cI, 64, .inl G.1)), (b1, .inl (cI, 64, .inl G.2.1))] := hD
  have hin_X2 : ∀ w ∈ wsX20, w ∈ wsX2_allVisits := by decide +kernel
  have hf_PressedPlains_12 := hts (.fieldLink RX2 12 "PressedPlains" "book" "LPressedPlains$Book;") (by decide +kernel)
  have hin_X0 : ∀ w ∈ wsX00, w ∈ wsX2_allVisits := by decide +kernel
  have hn_123 : (Cond.fieldLinkNest RX2 123 "PressedPlains$Book" "totalVisits" "I" "PressedPlains").before args s = true := va_Nw.use rfl (hE.1.1 _ (List.mem_of_getElem? (i := 8) rfl))
  refine lv_aload_n hx hb dX2_allVisits_0 rfl (lv_at hl 0 rfl) ?_
  refine va_get (D := D) (ci := 2) (v := .ref h) (C := RX2) (T := TX2) (N := 3) hx hb hts hin_X2 hown hK hP 0 rfl rfl 0 (by decide) hf_PressedPlains_12 (fun _ h9 => h9) rfl dX2_allVisits_1 ?_
  refine va_getN (D := D) (ci := 0) (v := .int B.2.2.2.2.2.1) (C := RX0) (T := TX0) (N := 9) hx hb hts hin_X0 hown hK hP 1 rfl rfl 7 (by decide) hn_123 (fun _ h9 => h9) rfl dX2_allVisits_4 ?_
  exact pq_iret hQ hx hb hr hlocks hK hS hP hD dX2_allVisits_7 (by omega) (by omega) (⟨rfl, rfl⟩)

set_option maxHeartbeats 4000000 in
set_option maxRecDepth 100000 in
theorem mX2_pressedAway (l : Launch) (D : va_G) (cI : ClassId) (q h a0 a1 a2 a3 a4 a5 g b0 b1 : Nat) (fi la : Nat → Int32) (B : BK) (G : GK) (pr : Int32) (N : Nat) (hfl : l.stackTraces = false) (hN : G.2.2.1 = nI N) (hN1 : 1 ≤ N) (hN2 : N ≤ 64) : pq_M l yX2_pressedAway wsX2_pressedAway 0 0 0 0 D [(cI, .int)] pq_Ev (ppW q h a0 a1 a2 a3 a4 a5 g b0 b1 cI fi la B G pr) [.ref q] (fun v w1 => v = some (.int (pr)) ∧ w1 = ppW q h a0 a1 a2 a3 a4 a5 g b0 b1 cI fi la B G pr) := by
  refine pq_enter (cc := cX2_pressedAway) (maxL := 1) (ret := (some .int)) (by decide) rfl (Nat.le_of_ble_eq_true rfl) ?_
  intro p ev s m args below meth cd A ls Q H locs hx hb hr hml hts hown hlocks hnm hK hP hD hS hA hE hl hQ
  have hl : lv_has ls 1 [(0, .ref q)] := hl
  have hP : va_P D vwCl [(q, .inr (2, [.ref h, .ref g, .int pr])), (h, .inr (0, [.ref a0, .ref a1, .ref a2, .ref a3, .ref a4, .ref a5, .int B.2.2.2.2.1, .int B.2.2.2.2.2.1, .int B.2.2.2.2.2.2])), (a0, .inl (cI, 128, .inl fi)), (a1, .inl (cI, 128, .inl la)), (a2, .inl (cI, 128, .inl B.1)), (a3, .inl (cI, 128, .inl B.2.1)), (a4, .inl (cI, 128, .inl B.2.2.1)), (a5, .inl (cI, 128, .inl B.2.2.2.1)), (g, .inr (1, [.ref b0, .ref b1, .int G.2.2.1, .int G.2.2.2])), (b0, .inl (cI, 64, .inl G.1)), (b1, .inl (cI, 64, .inl G.2.1))] H := hP
  have hD : va_D A [(q, .inr (2, [.ref h, .ref g, .int pr])), (h, .inr (0, [.ref a0, .ref a1, .ref a2, .ref a3, .ref a4, .ref a5, .int B.2.2.2.2.1, .int B.2.2.2.2.2.1, .int B.2.2.2.2.2.2])), (a0, .inl (cI, 128, .inl fi)), (a1, .inl (cI, 128, .inl la)), (a2, .inl (cI, 128, .inl B.1)), (a3, .inl (cI, 128, .inl B.2.1)), (a4, .inl (cI, 128, .inl B.2.2.1)), (a5, .inl (cI, 128, .inl B.2.2.2.1)), (g, .inr (1, [.ref b0, .ref b1, .int G.2.2.1, .int G.2.2.2])), (b0, .inl (cI, 64, .inl G.1)), (b1, .inl (cI, 64, .inl G.2.1))] := hD
  have hin_X2 : ∀ w ∈ wsX20, w ∈ wsX2_pressedAway := by decide +kernel
  have hf_PressedPlains_28 := hts (.fieldLink RX2 28 "PressedPlains" "pressedSoFar" "I") (by decide +kernel)
  refine lv_aload_n hx hb dX2_pressedAway_0 rfl (lv_at hl 0 rfl) ?_
  refine va_get (D := D) (ci := 2) (v := .int pr) (C := RX2) (T := TX2) (N := 3) hx hb hts hin_X2 hown hK hP 0 rfl rfl 2 (by decide) hf_PressedPlains_28 (fun _ h9 => h9) rfl dX2_pressedAway_1 ?_
  exact pq_iret hQ hx hb hr hlocks hK hS hP hD dX2_pressedAway_4 (by omega) (by omega) (⟨rfl, rfl⟩)

set_option maxHeartbeats 4000000 in
set_option maxRecDepth 100000 in
theorem mX2_lagging (l : Launch) (D : va_G) (cI : ClassId) (q h a0 a1 a2 a3 a4 a5 g b0 b1 : Nat) (fi la : Nat → Int32) (B : BK) (G : GK) (pr : Int32) (N : Nat) (hfl : l.stackTraces = false) (hN : G.2.2.1 = nI N) (hN1 : 1 ≤ N) (hN2 : N ≤ 64) : pq_M l yX2_lagging wsX2_lagging 2 43 0 0 D [(cI, .int)] pq_Ev (ppW q h a0 a1 a2 a3 a4 a5 g b0 b1 cI fi la B G pr) [.ref q] (fun v w1 => v = some (.int (bLags la B 126)) ∧ w1 = ppW q h a0 a1 a2 a3 a4 a5 g b0 b1 cI fi la B G pr) := by
  refine pq_enter (cc := cX2_lagging) (maxL := 1) (ret := (some .int)) (by decide) rfl (Nat.le_of_ble_eq_true rfl) ?_
  intro p ev s m args below meth cd A ls Q H locs hx hb hr hml hts hown hlocks hnm hK hP hD hS hA hE hl hQ
  have hl : lv_has ls 1 [(0, .ref q)] := hl
  have hP : va_P D vwCl [(q, .inr (2, [.ref h, .ref g, .int pr])), (h, .inr (0, [.ref a0, .ref a1, .ref a2, .ref a3, .ref a4, .ref a5, .int B.2.2.2.2.1, .int B.2.2.2.2.2.1, .int B.2.2.2.2.2.2])), (a0, .inl (cI, 128, .inl fi)), (a1, .inl (cI, 128, .inl la)), (a2, .inl (cI, 128, .inl B.1)), (a3, .inl (cI, 128, .inl B.2.1)), (a4, .inl (cI, 128, .inl B.2.2.1)), (a5, .inl (cI, 128, .inl B.2.2.2.1)), (g, .inr (1, [.ref b0, .ref b1, .int G.2.2.1, .int G.2.2.2])), (b0, .inl (cI, 64, .inl G.1)), (b1, .inl (cI, 64, .inl G.2.1))] H := hP
  have hD : va_D A [(q, .inr (2, [.ref h, .ref g, .int pr])), (h, .inr (0, [.ref a0, .ref a1, .ref a2, .ref a3, .ref a4, .ref a5, .int B.2.2.2.2.1, .int B.2.2.2.2.2.1, .int B.2.2.2.2.2.2])), (a0, .inl (cI, 128, .inl fi)), (a1, .inl (cI, 128, .inl la)), (a2, .inl (cI, 128, .inl B.1)), (a3, .inl (cI, 128, .inl B.2.1)), (a4, .inl (cI, 128, .inl B.2.2.1)), (a5, .inl (cI, 128, .inl B.2.2.2.1)), (g, .inr (1, [.ref b0, .ref b1, .int G.2.2.1, .int G.2.2.2])), (b0, .inl (cI, 64, .inl G.1)), (b1, .inl (cI, 64, .inl G.2.1))] := hD
  have hin_X2 : ∀ w ∈ wsX20, w ∈ wsX2_lagging := by decide +kernel
  have hf_PressedPlains_12 := hts (.fieldLink RX2 12 "PressedPlains" "book" "LPressedPlains$Book;") (by decide +kernel)
  refine lv_aload_n hx hb dX2_lagging_0 rfl (lv_at hl 0 rfl) ?_
  refine va_get (D := D) (ci := 2) (v := .ref h) (C := RX2) (T := TX2) (N := 3) hx hb hts hin_X2 hown hK hP 0 rfl rfl 0 (by decide) hf_PressedPlains_12 (fun _ h9 => h9) rfl dX2_lagging_1 ?_
  refine pq_callV (wr := [(q, .inr (2, [.ref h, .ref g, .int pr])), (g, .inr (1, [.ref b0, .ref b1, .int G.2.2.1, .int G.2.2.2])), (b0, .inl (cI, 64, .inl G.1)), (b1, .inl (cI, 64, .inl G.2.1))]) (own := RX2) (nL := 1) (q0 := 1) (ci := 0) [1, 2, 3, 4, 5, 6, 7] [0, 8, 9, 10] [] (mX0_countLagging l D cI h a0 a1 a2 a3 a4 a5 fi la B ) ⟨hx, hb, hml, hown, hts⟩ (cwV 0 hts gX2_lagging_X0_countLagging rfl rfl rfl (by decide +kernel) ⟨by dsimp only [pq_R]; omega, by dsimp only [pq_R]; omega⟩) pq_bl0 (fun _ _ _ => trivial) hK hP hD hS hA rfl (by decide) rfl (by decide) (by decide) rfl rfl rfl rfl hl.1 rfl (Nat.le_of_ble_eq_true rfl) dX2_lagging_4 ⟨by dsimp only [pq_R]; omega, by dsimp only [pq_R]; omega⟩ (fun v w1 H locs hq hP hD hS hz => ?_)
  obtain ⟨rfl, rfl⟩ := hq
  have hP : va_P D vwCl [(q, .inr (2, [.ref h, .ref g, .int pr])), (h, .inr (0, [.ref a0, .ref a1, .ref a2, .ref a3, .ref a4, .ref a5, .int B.2.2.2.2.1, .int B.2.2.2.2.2.1, .int B.2.2.2.2.2.2])), (a0, .inl (cI, 128, .inl fi)), (a1, .inl (cI, 128, .inl la)), (a2, .inl (cI, 128, .inl B.1)), (a3, .inl (cI, 128, .inl B.2.1)), (a4, .inl (cI, 128, .inl B.2.2.1)), (a5, .inl (cI, 128, .inl B.2.2.2.1)), (g, .inr (1, [.ref b0, .ref b1, .int G.2.2.1, .int G.2.2.2])), (b0, .inl (cI, 64, .inl G.1)), (b1, .inl (cI, 64, .inl G.2.1))] H := hP.sub [0, 4, 5, 6, 7, 8, 9, 10, 1, 2, 3] rfl
  have hD : va_D A [(q, .inr (2, [.ref h, .ref g, .int pr])), (h, .inr (0, [.ref a0, .ref a1, .ref a2, .ref a3, .ref a4, .ref a5, .int B.2.2.2.2.1, .int B.2.2.2.2.2.1, .int B.2.2.2.2.2.2])), (a0, .inl (cI, 128, .inl fi)), (a1, .inl (cI, 128, .inl la)), (a2, .inl (cI, 128, .inl B.1)), (a3, .inl (cI, 128, .inl B.2.1)), (a4, .inl (cI, 128, .inl B.2.2.1)), (a5, .inl (cI, 128, .inl B.2.2.2.1)), (g, .inr (1, [.ref b0, .ref b1, .int G.2.2.1, .int G.2.2.2])), (b0, .inl (cI, 64, .inl G.1)), (b1, .inl (cI, 64, .inl G.2.1))] := hD.sub [0, 4, 5, 6, 7, 8, 9, 10, 1, 2, 3] (by decide) rfl
  refine W.eq (g2 := F0 m 7 ls [.int (bLags la B 126)]) rfl ?_
  exact pq_iret hQ hx hb hr hlocks hK hS hP hD dX2_lagging_7 (by omega) (by omega) (⟨rfl, rfl⟩)

set_option maxHeartbeats 4000000 in
set_option maxRecDepth 100000 in
theorem mX2_pressedAwayByRest (l : Launch) (D : va_G) (cI : ClassId) (q h a0 a1 a2 a3 a4 a5 g b0 b1 : Nat) (fi la : Nat → Int32) (B : BK) (G : GK) (pr : Int32) (N : Nat) (hfl : l.stackTraces = false) (hN : G.2.2.1 = nI N) (hN1 : 1 ≤ N) (hN2 : N ≤ 64) : pq_M l yX2_pressedAwayByRest wsX2_pressedAwayByRest 2 55 0 0 D [(cI, .int)] pq_Ev (ppW q h a0 a1 a2 a3 a4 a5 g b0 b1 cI fi la B G pr) [.ref q] (fun v w1 => v = some (.int (G.2.2.2 - gAbove G.1 0 (N - 1 + 1 - 0) 0)) ∧ w1 = ppW q h a0 a1 a2 a3 a4 a5 g b0 b1 cI fi la B G pr) := by
  refine pq_enter (cc := cX2_pressedAwayByRest) (maxL := 1) (ret := (some .int)) (by decide) rfl (Nat.le_of_ble_eq_true rfl) ?_
  intro p ev s m args below meth cd A ls Q H locs hx hb hr hml hts hown hlocks hnm hK hP hD hS hA hE hl hQ
  have hl : lv_has ls 1 [(0, .ref q)] := hl
  have hP : va_P D vwCl [(q, .inr (2, [.ref h, .ref g, .int pr])), (h, .inr (0, [.ref a0, .ref a1, .ref a2, .ref a3, .ref a4, .ref a5, .int B.2.2.2.2.1, .int B.2.2.2.2.2.1, .int B.2.2.2.2.2.2])), (a0, .inl (cI, 128, .inl fi)), (a1, .inl (cI, 128, .inl la)), (a2, .inl (cI, 128, .inl B.1)), (a3, .inl (cI, 128, .inl B.2.1)), (a4, .inl (cI, 128, .inl B.2.2.1)), (a5, .inl (cI, 128, .inl B.2.2.2.1)), (g, .inr (1, [.ref b0, .ref b1, .int G.2.2.1, .int G.2.2.2])), (b0, .inl (cI, 64, .inl G.1)), (b1, .inl (cI, 64, .inl G.2.1))] H := hP
  have hD : va_D A [(q, .inr (2, [.ref h, .ref g, .int pr])), (h, .inr (0, [.ref a0, .ref a1, .ref a2, .ref a3, .ref a4, .ref a5, .int B.2.2.2.2.1, .int B.2.2.2.2.2.1, .int B.2.2.2.2.2.2])), (a0, .inl (cI, 128, .inl fi)), (a1, .inl (cI, 128, .inl la)), (a2, .inl (cI, 128, .inl B.1)), (a3, .inl (cI, 128, .inl B.2.1)), (a4, .inl (cI, 128, .inl B.2.2.1)), (a5, .inl (cI, 128, .inl B.2.2.2.1)), (g, .inr (1, [.ref b0, .ref b1, .int G.2.2.1, .int G.2.2.2])), (b0, .inl (cI, 64, .inl G.1)), (b1, .inl (cI, 64, .inl G.2.1))] := hD
  have hin_X2 : ∀ w ∈ wsX20, w ∈ wsX2_pressedAwayByRest := by decide +kernel
  have hf_PressedPlains_19 := hts (.fieldLink RX2 19 "PressedPlains" "ground" "LPressedPlains$Ground;") (by decide +kernel)
  have hin_X1 : ∀ w ∈ wsX10, w ∈ wsX2_pressedAwayByRest := by decide +kernel
  have hn_126 : (Cond.fieldLinkNest RX2 126 "PressedPlains$Ground" "given" "I" "PressedPlains").before args s = true := va_Nw.use rfl (hE.1.1 _ (List.mem_of_getElem? (i := 14) rfl))
  have hn_92 : (Cond.fieldLinkNest RX2 92 "PressedPlains$Ground" "count" "I" "PressedPlains").before args s = true := va_Nw.use rfl (hE.1.1 _ (List.mem_of_getElem? (i := 13) rfl))
  refine lv_aload_n hx hb dX2_pressedAwayByRest_0 rfl (lv_at hl 0 rfl) ?_
  refine va_get (D := D) (ci := 2) (v := .ref g) (C := RX2) (T := TX2) (N := 3) hx hb hts hin_X2 hown hK hP 0 rfl rfl 1 (by decide) hf_PressedPlains_19 (fun _ h9 => h9) rfl dX2_pressedAwayByRest_1 ?_
  refine va_getN (D := D) (ci := 1) (v := .int G.2.2.2) (C := RX1) (T := TX1) (N := 4) hx hb hts hin_X1 hown hK hP 8 rfl rfl 3 (by decide) hn_126 (fun _ h9 => h9) rfl dX2_pressedAwayByRest_4 ?_
  refine lv_aload_n hx hb dX2_pressedAwayByRest_7 rfl (lv_at hl 0 rfl) ?_
  refine va_get (D := D) (ci := 2) (v := .ref g) (C := RX2) (T := TX2) (N := 3) hx hb hts hin_X2 hown hK hP 0 rfl rfl 1 (by decide) hf_PressedPlains_19 (fun _ h9 => h9) rfl dX2_pressedAwayByRest_8 ?_
  refine lv_iconst (v := 0) hx hb dX2_pressedAwayByRest_11 (by decide) ?_
  refine lv_aload_n hx hb dX2_pressedAwayByRest_12 rfl (lv_at hl 0 rfl) ?_
  refine va_get (D := D) (ci := 2) (v := .ref g) (C := RX2) (T := TX2) (N := 3) hx hb hts hin_X2 hown hK hP 0 rfl rfl 1 (by decide) hf_PressedPlains_19 (fun _ h9 => h9) rfl dX2_pressedAwayByRest_13 ?_
  refine va_getN (D := D) (ci := 1) (v := .int G.2.2.1) (C := RX1) (T := TX1) (N := 4) hx hb hts hin_X1 hown hK hP 8 rfl rfl 2 (by decide) hn_92 (fun _ h9 => h9) rfl dX2_pressedAwayByRest_16 ?_
  refine pq_top (nI N) hN ?_
  refine lv_iconst (v := 1) hx hb dX2_pressedAwayByRest_19 (by decide) ?_
  refine lv_isub hx hb dX2_pressedAwayByRest_20 ?_
  refine pq_top (nI (N - 1)) (pk_sub (b := 1) (by omega)) ?_
  refine lv_iconst (v := 0) hx hb dX2_pressedAwayByRest_21 (by decide) ?_
  refine pq_callV (wr := [(q, .inr (2, [.ref h, .ref g, .int pr])), (h, .inr (0, [.ref a0, .ref a1, .ref a2, .ref a3, .ref a4, .ref a5, .int B.2.2.2.2.1, .int B.2.2.2.2.2.1, .int B.2.2.2.2.2.2])), (a0, .inl (cI, 128, .inl fi)), (a1, .inl (cI, 128, .inl la)), (a2, .inl (cI, 128, .inl B.1)), (a3, .inl (cI, 128, .inl B.2.1)), (a4, .inl (cI, 128, .inl B.2.2.1)), (a5, .inl (cI, 128, .inl B.2.2.2.1))]) (own := RX2) (nL := 1) (q0 := 8) (ci := 1) [8, 9, 10] [0, 1, 2, 3, 4, 5, 6, 7] [.int 0, .int (nI (N - 1)), .int 0] (mX1_earthAbove l D cI g b0 b1 G 0 (N - 1) 0 (by omega) (by omega)) ⟨hx, hb, hml, hown, hts⟩ (cwV 3 hts gX2_pressedAwayByRest_X1_earthAbove rfl rfl rfl (by decide +kernel) ⟨by dsimp only [pq_R]; omega, by dsimp only [pq_R]; omega⟩) pq_bl0 (fun _ _ _ => trivial) hK hP hD hS hA rfl (by decide) rfl (by decide) (by decide) rfl rfl rfl rfl hl.1 rfl (Nat.le_of_ble_eq_true rfl) dX2_pressedAwayByRest_22 ⟨by dsimp only [pq_R]; omega, by dsimp only [pq_R]; omega⟩ (fun v w1 H locs hq hP hD hS hz => ?_)
  obtain ⟨rfl, rfl⟩ := hq
  have hP : va_P D vwCl [(q, .inr (2, [.ref h, .ref g, .int pr])), (h, .inr (0, [.ref a0, .ref a1, .ref a2, .ref a3, .ref a4, .ref a5, .int B.2.2.2.2.1, .int B.2.2.2.2.2.1, .int B.2.2.2.2.2.2])), (a0, .inl (cI, 128, .inl fi)), (a1, .inl (cI, 128, .inl la)), (a2, .inl (cI, 128, .inl B.1)), (a3, .inl (cI, 128, .inl B.2.1)), (a4, .inl (cI, 128, .inl B.2.2.1)), (a5, .inl (cI, 128, .inl B.2.2.2.1)), (g, .inr (1, [.ref b0, .ref b1, .int G.2.2.1, .int G.2.2.2])), (b0, .inl (cI, 64, .inl G.1)), (b1, .inl (cI, 64, .inl G.2.1))] H := hP
  have hD : va_D A [(q, .inr (2, [.ref h, .ref g, .int pr])), (h, .inr (0, [.ref a0, .ref a1, .ref a2, .ref a3, .ref a4, .ref a5, .int B.2.2.2.2.1, .int B.2.2.2.2.2.1, .int B.2.2.2.2.2.2])), (a0, .inl (cI, 128, .inl fi)), (a1, .inl (cI, 128, .inl la)), (a2, .inl (cI, 128, .inl B.1)), (a3, .inl (cI, 128, .inl B.2.1)), (a4, .inl (cI, 128, .inl B.2.2.1)), (a5, .inl (cI, 128, .inl B.2.2.2.1)), (g, .inr (1, [.ref b0, .ref b1, .int G.2.2.1, .int G.2.2.2])), (b0, .inl (cI, 64, .inl G.1)), (b1, .inl (cI, 64, .inl G.2.1))] := hD
  refine W.eq (g2 := F0 m 25 ls [.int (gAbove G.1 0 ((N - 1) + 1 - 0) 0), .int G.2.2.2]) rfl ?_
  refine lv_isub hx hb dX2_pressedAwayByRest_25 ?_
  exact pq_iret hQ hx hb hr hlocks hK hS hP hD dX2_pressedAwayByRest_26 (by omega) (by omega) (⟨rfl, rfl⟩)
