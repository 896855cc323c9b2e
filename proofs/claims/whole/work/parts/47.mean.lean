/-! the mean of the visits -/
set_option maxHeartbeats 4000000 in
set_option maxRecDepth 100000 in
theorem mX2_meanVisits (l : Launch) (D : va_G) (cI : ClassId) (q h a0 a1 a2 a3 a4 a5 g b0 b1 : Nat) (fi la : Nat → Int32) (B : BK) (G : GK) (pr : Int32) : pq_DM l yX2_meanVisits wsX2_meanVisits 0 0 0 0 D [(cI, .int)] pq_Ev (ppW q h a0 a1 a2 a3 a4 a5 g b0 b1 cI fi la B G pr) [.ref q] (fun v w1 => ∃ r, v = some (.double r) ∧ dMean B.2.2.2.2.2.1 B.2.2.2.2.2.2 r ∧ w1 = ppW q h a0 a1 a2 a3 a4 a5 g b0 b1 cI fi la B G pr) := by
  refine pq_denter (cc := cX2_meanVisits) (maxL := 1) (ret := (some .double)) (by decide) rfl (Nat.le_of_ble_eq_true rfl) ?_
  intro p ev s m args below meth cd A ls Q H locs hx hb hr hml hts hown hlocks hK hP hD hS hA hE hl hQ
  have hl : lv_has ls 1 [(0, .ref q)] := hl
  have hP : va_P D vwCl [(q, .inr (2, [.ref h, .ref g, .int pr])), (h, .inr (0, [.ref a0, .ref a1, .ref a2, .ref a3, .ref a4, .ref a5, .int B.2.2.2.2.1, .int B.2.2.2.2.2.1, .int B.2.2.2.2.2.2])), (a0, .inl (cI, 128, .inl fi)), (a1, .inl (cI, 128, .inl la)), (a2, .inl (cI, 128, .inl B.1)), (a3, .inl (cI, 128, .inl B.2.1)), (a4, .inl (cI, 128, .inl B.2.2.1)), (a5, .inl (cI, 128, .inl B.2.2.2.1)), (g, .inr (1, [.ref b0, .ref b1, .int G.2.2.1, .int G.2.2.2])), (b0, .inl (cI, 64, .inl G.1)), (b1, .inl (cI, 64, .inl G.2.1))] H := hP
  have hD : va_D A [(q, .inr (2, [.ref h, .ref g, .int pr])), (h, .inr (0, [.ref a0, .ref a1, .ref a2, .ref a3, .ref a4, .ref a5, .int B.2.2.2.2.1, .int B.2.2.2.2.2.1, .int B.2.2.2.2.2.2])), (a0, .inl (cI, 128, .inl fi)), (a1, .inl (cI, 128, .inl la)), (a2, .inl (cI, 128, .inl B.1)), (a3, .inl (cI, 128, .inl B.2.1)), (a4, .inl (cI, 128, .inl B.2.2.1)), (a5, .inl (cI, 128, .inl B.2.2.2.1)), (g, .inr (1, [.ref b0, .ref b1, .int G.2.2.1, .int G.2.2.2])), (b0, .inl (cI, 64, .inl G.1)), (b1, .inl (cI, 64, .inl G.2.1))] := hD
  have hin_X2 : ∀ w ∈ wsX20, w ∈ wsX2_meanVisits := by decide +kernel
  have hf_12 := hts (.fieldLink RX2 12 "PressedPlains" "book" "LPressedPlains$Book;") (by decide +kernel)
  have hin_X0 : ∀ w ∈ wsX00, w ∈ wsX2_meanVisits := by decide +kernel
  have hn_123 : (Cond.fieldLinkNest RX2 123 "PressedPlains$Book" "totalVisits" "I" "PressedPlains").before args s = true := va_Nw.use rfl (hE.1.1 _ (List.mem_of_getElem? (i := 8) rfl))
  have hn_129 : (Cond.fieldLinkNest RX2 129 "PressedPlains$Book" "calls" "I" "PressedPlains").before args s = true := va_Nw.use rfl (hE.1.1 _ (List.mem_of_getElem? (i := 9) rfl))
  refine lv_aload_n hx hb dX2_meanVisits_0 rfl (lv_at hl 0 rfl) ?_
  refine va_get (D := D) (ci := 2) (v := .ref h) (C := RX2) (T := TX2) (N := 3) hx hb hts hin_X2 hown hK hP 0 rfl rfl 0 (by decide) hf_12 (fun _ h9 => h9) rfl dX2_meanVisits_1 ?_
  refine va_getN (D := D) (ci := 0) (v := .int B.2.2.2.2.2.2) (C := RX0) (T := TX0) (N := 9) hx hb hts hin_X0 hown hK hP 1 rfl rfl 8 (by decide) hn_129 (fun _ h9 => h9) rfl dX2_meanVisits_4 ?_
  refine lv_if_ne (tgt := 12) hx hb dX2_meanVisits_7 (by decide) (fun hc => ?_) (fun hc => ?_)
  · refine lv_aload_n hx hb dX2_meanVisits_12 rfl (lv_at hl 0 rfl) ?_
    refine va_get (D := D) (ci := 2) (v := .ref h) (C := RX2) (T := TX2) (N := 3) hx hb hts hin_X2 hown hK hP 0 rfl rfl 0 (by decide) hf_12 (fun _ h9 => h9) rfl dX2_meanVisits_13 ?_
    refine va_getN (D := D) (ci := 0) (v := .int B.2.2.2.2.2.1) (C := RX0) (T := TX0) (N := 9) hx hb hts hin_X0 hown hK hP 1 rfl rfl 7 (by decide) hn_123 (fun _ h9 => h9) rfl dX2_meanVisits_16 ?_
    refine lv_i2d hx hb dX2_meanVisits_19 ?_
    refine lv_aload_n hx hb dX2_meanVisits_20 rfl (lv_at hl 0 rfl) ?_
    refine va_get (D := D) (ci := 2) (v := .ref h) (C := RX2) (T := TX2) (N := 3) hx hb hts hin_X2 hown hK hP 0 rfl rfl 0 (by decide) hf_12 (fun _ h9 => h9) rfl dX2_meanVisits_21 ?_
    refine va_getN (D := D) (ci := 0) (v := .int B.2.2.2.2.2.2) (C := RX0) (T := TX0) (N := 9) hx hb hts hin_X0 hown hK hP 1 rfl rfl 8 (by decide) hn_129 (fun _ h9 => h9) rfl dX2_meanVisits_24 ?_
    refine lv_i2d hx hb dX2_meanVisits_27 ?_
    refine W.base ?_
    refine lv_ddiv_any (Drawn.sameBut.refl s.drawn lw_cs) lw_bits hx hb dX2_meanVisits_28 (fun r d1 hal hd1 => ?_)
    exact pq_dret hd1 hQ hx hb hr hlocks hK hS hP hD dX2_meanVisits_29 (by omega) (by omega) ⟨r, rfl, Or.inr ⟨hc, hal⟩, rfl⟩
  · refine lv_dconst0 hx hb dX2_meanVisits_10 ?_
    refine W.base ?_
    exact pq_dret (Drawn.sameBut.refl s.drawn lw_cs) hQ hx hb hr hlocks hK hS hP hD dX2_meanVisits_11 (by omega) (by omega) ⟨_, rfl, Or.inl ⟨hc, rfl⟩, rfl⟩
set_option maxHeartbeats 4000000 in
set_option maxRecDepth 100000 in
theorem mX3_meanVisits (l : Launch) (D : va_G) (cI : ClassId) (mo z1 z2 z3 z4 z5 z6 z7 z8 z9 : Nat) (col : Int32) (hs cs fi la : Nat → Int32) (B : BK) (td : Nat → Int32) (lf laid piled prs thr : Int32) : pq_DM l yX3_meanVisits wsX3_meanVisits 0 0 0 0 D [(cI, .int)] pq_0 (mdW mo z1 z2 z3 z4 z5 z6 z7 z8 z9 cI col hs cs fi la B td lf laid piled prs thr) [.ref mo] (fun v w1 => ∃ r, v = some (.double r) ∧ dMean B.2.2.2.2.2.1 B.2.2.2.2.2.2 r ∧ w1 = mdW mo z1 z2 z3 z4 z5 z6 z7 z8 z9 cI col hs cs fi la B td lf laid piled prs 0) := by
  refine pq_denter (cc := cX3_meanVisits) (maxL := 1) (ret := (some .double)) (by decide) rfl (Nat.le_of_ble_eq_true rfl) ?_
  intro p ev s m args below meth cd A ls Q H locs hx hb hr hml hts hown hlocks hK hP hD hS hA hE hl hQ
  have hl : lv_has ls 1 [(0, .ref mo)] := hl
  have hP : va_P D vwCl [(mo, .inr (3, [.int col, .ref z1, .ref z2, .ref z3, .ref z4, .ref z5, .ref z6, .ref z7, .ref z8, .ref z9, .int lf, .int B.2.2.2.2.1, .int B.2.2.2.2.2.1, .int B.2.2.2.2.2.2, .int laid, .int piled, .int prs, .int thr])), (z1, .inl (cI, 64, .inl hs)), (z2, .inl (cI, 64, .inl cs)), (z3, .inl (cI, 128, .inl fi)), (z4, .inl (cI, 128, .inl la)), (z5, .inl (cI, 128, .inl B.1)), (z6, .inl (cI, 128, .inl B.2.1)), (z7, .inl (cI, 128, .inl B.2.2.1)), (z8, .inl (cI, 128, .inl B.2.2.2.1)), (z9, .inl (cI, 64, .inl td))] H := hP
  have hD : va_D A [(mo, .inr (3, [.int col, .ref z1, .ref z2, .ref z3, .ref z4, .ref z5, .ref z6, .ref z7, .ref z8, .ref z9, .int lf, .int B.2.2.2.2.1, .int B.2.2.2.2.2.1, .int B.2.2.2.2.2.2, .int laid, .int piled, .int prs, .int thr])), (z1, .inl (cI, 64, .inl hs)), (z2, .inl (cI, 64, .inl cs)), (z3, .inl (cI, 128, .inl fi)), (z4, .inl (cI, 128, .inl la)), (z5, .inl (cI, 128, .inl B.1)), (z6, .inl (cI, 128, .inl B.2.1)), (z7, .inl (cI, 128, .inl B.2.2.1)), (z8, .inl (cI, 128, .inl B.2.2.2.1)), (z9, .inl (cI, 64, .inl td))] := hD
  have hin_X3 : ∀ w ∈ wsX30, w ∈ wsX3_meanVisits := by decide +kernel
  have hf_41 := hts (.fieldLink RX3 41 "PressedPlainsModel" "thrown" "I") (by decide +kernel)
  have hf_55 := hts (.fieldLink RX3 55 "PressedPlainsModel" "allVisits" "I") (by decide +kernel)
  have hf_58 := hts (.fieldLink RX3 58 "PressedPlainsModel" "calls" "I") (by decide +kernel)
  refine lv_aload_n hx hb dX3_meanVisits_0 rfl (lv_at hl 0 rfl) ?_
  refine lv_iconst (v := 0) hx hb dX3_meanVisits_1 (by decide) ?_
  refine va_put (D := D) (ci := 3) (v := .int 0) (ty := .int) (C := RX3) (T := TX3) (N := 18) hx hb hts hin_X3 tyX3 tyX3_ok nmX3 hown hK hP hD hS 0 rfl rfl 17 (by decide) hf_41 (fun _ h9 => h9) rfl (by decide +kernel) rfl rfl (Nat.le_of_ble_eq_true rfl) dX3_meanVisits_2 (fun H locs hP hD hS => ?_)
  have hP : va_P D vwCl [(mo, .inr (3, [.int col, .ref z1, .ref z2, .ref z3, .ref z4, .ref z5, .ref z6, .ref z7, .ref z8, .ref z9, .int lf, .int B.2.2.2.2.1, .int B.2.2.2.2.2.1, .int B.2.2.2.2.2.2, .int laid, .int piled, .int prs, .int 0])), (z1, .inl (cI, 64, .inl hs)), (z2, .inl (cI, 64, .inl cs)), (z3, .inl (cI, 128, .inl fi)), (z4, .inl (cI, 128, .inl la)), (z5, .inl (cI, 128, .inl B.1)), (z6, .inl (cI, 128, .inl B.2.1)), (z7, .inl (cI, 128, .inl B.2.2.1)), (z8, .inl (cI, 128, .inl B.2.2.2.1)), (z9, .inl (cI, 64, .inl td))] H := hP
  have hD : va_D A [(mo, .inr (3, [.int col, .ref z1, .ref z2, .ref z3, .ref z4, .ref z5, .ref z6, .ref z7, .ref z8, .ref z9, .int lf, .int B.2.2.2.2.1, .int B.2.2.2.2.2.1, .int B.2.2.2.2.2.2, .int laid, .int piled, .int prs, .int 0])), (z1, .inl (cI, 64, .inl hs)), (z2, .inl (cI, 64, .inl cs)), (z3, .inl (cI, 128, .inl fi)), (z4, .inl (cI, 128, .inl la)), (z5, .inl (cI, 128, .inl B.1)), (z6, .inl (cI, 128, .inl B.2.1)), (z7, .inl (cI, 128, .inl B.2.2.1)), (z8, .inl (cI, 128, .inl B.2.2.2.1)), (z9, .inl (cI, 64, .inl td))] := hD
  refine lv_aload_n hx hb dX3_meanVisits_5 rfl (lv_at hl 0 rfl) ?_
  refine va_get (D := D) (ci := 3) (v := .int B.2.2.2.2.2.2) (C := RX3) (T := TX3) (N := 18) hx hb hts hin_X3 hown hK hP 0 rfl rfl 13 (by decide) hf_58 (fun _ h9 => h9) rfl dX3_meanVisits_6 ?_
  refine lv_if_ne (tgt := 16) hx hb dX3_meanVisits_9 (by decide) (fun hc => ?_) (fun hc => ?_)
  · refine lv_aload_n hx hb dX3_meanVisits_16 rfl (lv_at hl 0 rfl) ?_
    refine va_get (D := D) (ci := 3) (v := .int B.2.2.2.2.2.1) (C := RX3) (T := TX3) (N := 18) hx hb hts hin_X3 hown hK hP 0 rfl rfl 12 (by decide) hf_55 (fun _ h9 => h9) rfl dX3_meanVisits_17 ?_
    refine lv_i2d hx hb dX3_meanVisits_20 ?_
    refine lv_aload_n hx hb dX3_meanVisits_21 rfl (lv_at hl 0 rfl) ?_
    refine va_get (D := D) (ci := 3) (v := .int B.2.2.2.2.2.2) (C := RX3) (T := TX3) (N := 18) hx hb hts hin_X3 hown hK hP 0 rfl rfl 13 (by decide) hf_58 (fun _ h9 => h9) rfl dX3_meanVisits_22 ?_
    refine lv_i2d hx hb dX3_meanVisits_25 ?_
    refine W.base ?_
    refine lv_ddiv_any (Drawn.sameBut.refl s.drawn lw_cs) lw_bits hx hb dX3_meanVisits_26 (fun r d1 hal hd1 => ?_)
    exact pq_dret hd1 hQ hx hb hr hlocks hK hS hP hD dX3_meanVisits_27 (by omega) (by omega) ⟨r, rfl, Or.inr ⟨hc, hal⟩, rfl⟩
  · refine lv_dconst0 hx hb dX3_meanVisits_12 ?_
    refine lv_goto (tgt := 27) hx hb dX3_meanVisits_13 (by decide) ?_
    refine W.base ?_
    exact pq_dret (Drawn.sameBut.refl s.drawn lw_cs) hQ hx hb hr hlocks hK hS hP hD dX3_meanVisits_27 (by omega) (by omega) ⟨_, rfl, Or.inl ⟨hc, rfl⟩, rfl⟩
set_option maxHeartbeats 4000000 in
set_option maxRecDepth 100000 in
theorem law_mean {p : Program} {l : Launch} {ev : Env} {s : State} {m : MethodId} {b L : Nat} {xs : Nat → Int32} {below : List Frame} {meth : Method} {cd : Code} {Q : State → Prop} {o q h a0 a1 a2 a3 a4 a5 g b0 b1 mo z1 z2 z3 z4 z5 z6 z7 z8 z9 : Nat} {D : va_G} {cI cL : ClassId} {i n sl : Nat} (C0 : LC p l s m meth cd b L xs D cI cL) (hi : i + 4 ≤ L) (hn : n + 6 ≤ 600000) (hsl : sl + 36 ≤ 7000000) (K : ∀ d1 : Drawn, s.drawn.sameBut d1 lw_cs → LK p l ev (s.setDrawn d1) m b below meth cd Q o q h a0 a1 a2 a3 a4 a5 g b0 b1 mo z1 z2 z3 z4 z5 z6 z7 z8 z9 D cI cL i 1291 (n + 6) (sl + 36)) : LK p l ev s m b below meth cd Q o q h a0 a1 a2 a3 a4 a5 g b0 b1 mo z1 z2 z3 z4 z5 z6 z7 z8 z9 D cI cL i 1250 n sl := by
  obtain ⟨hx, hb, hml, hown, hts, hX, hbl, hK, hE, hfl, hL⟩ := id C0
  have hA : ∀ q : Nat, s.heap.size ≤ q → (fun q : Nat => s.heap.size ≤ q) q := fun _ h => h
  have hbA : ¬ (fun q : Nat => s.heap.size ≤ q) b := Nat.not_le.mpr hbl
  rintro w H locs ls ⟨fo, fi, la, B, G, pr, N, hs, cs, mf, ml, M, td, lf, laid, piled, prs, thr, col, rfl, rfl, I, hg, hpr⟩ hP hD hS hl
  have hN1 := I.1
  have hN2 := I.2.1
  have hNN : G.2.2.1 = nI N := I.2.2.2.2.2.2.2.2
  have hT := I.2.2.2.1
  have hN5 : N < 65 := by omega
  refine lv_aload_n hx hb dL_law_1250 rfl (lv_at hl 3 rfl) ?_
  refine pq_callVD (rest := []) (wr := (o, .inl (cL, 1, .inr (.inl fo))) :: mdW mo z1 z2 z3 z4 z5 z6 z7 z8 z9 cI (nI N) hs cs mf ml M td lf laid piled prs thr) (own := RL) (nL := 9) (q0 := 1) (ci := 2) [1, 2, 3, 4, 5, 6, 7, 8, 9, 10, 11] [0, 12, 13, 14, 15, 16, 17, 18, 19, 20, 21] [] (mX2_meanVisits l D cI q h a0 a1 a2 a3 a4 a5 g b0 b1 fi la B G pr) ⟨hx, hb, hml, hown, hts⟩ (cwV 0 hts gL_law_X2_meanVisits rfl rfl rfl (by decide +kernel) ⟨Nat.le_of_ble_eq_true rfl, Nat.le_of_ble_eq_true rfl⟩) pq_blE (hE.1.call hD hS hA [1, 2, 3, 4, 5, 6, 7, 8, 9, 10, 11] rfl) (hK.sub [0] rfl) hP hD hS hA rfl (by decide) rfl (by decide) (by decide) rfl rfl rfl rfl hl.1 rfl (Nat.le_of_ble_eq_true rfl) dL_law_1251 ⟨by show n + 0 ≤ 601024; omega, by show sl + 0 ≤ 7293034; omega⟩ (fun v w1 H locs d1 hd1 hq hP hD hS hz => ?_)
  obtain ⟨r1, rfl, hr1, rfl⟩ := hq
  have hP : va_P D vwCl (lwW o fo q h a0 a1 a2 a3 a4 a5 g b0 b1 mo z1 z2 z3 z4 z5 z6 z7 z8 z9 cI cL fi la B G pr (nI N) hs cs mf ml M td lf laid piled prs thr) H := hP.sub [0, 11, 12, 13, 14, 15, 16, 17, 18, 19, 20, 21, 1, 2, 3, 4, 5, 6, 7, 8, 9, 10] rfl
  have hD : va_D (fun q : Nat => s.heap.size ≤ q) (lwW o fo q h a0 a1 a2 a3 a4 a5 g b0 b1 mo z1 z2 z3 z4 z5 z6 z7 z8 z9 cI cL fi la B G pr (nI N) hs cs mf ml M td lf laid piled prs thr) := hD.sub [0, 11, 12, 13, 14, 15, 16, 17, 18, 19, 20, 21, 1, 2, 3, 4, 5, 6, 7, 8, 9, 10] (by decide) rfl
  obtain ⟨hx, hb, hml, hown, hts, hX, hbl, hK, hE, hfl, hL⟩ := C0.drawn d1
  refine W.eq (g2 := F0 m 1254 ls [.double r1]) rfl ?_
  refine lv_dstore (lv' := [(5, .double r1), (4, .int (nI i)), (3, .ref o), (2, .ref mo), (1, .ref q), (0, .ref b)]) hx hb dL_law_1254 hl (by decide) rfl (fun ls hl => ?_)
  refine lv_aload_n hx hb dL_law_1256 rfl (lv_at hl 3 rfl) ?_
  refine pq_callVD (rest := []) (wr := (o, .inl (cL, 1, .inr (.inl fo))) :: ppW q h a0 a1 a2 a3 a4 a5 g b0 b1 cI fi la B G pr) (own := RL) (nL := 9) (q0 := 12) (ci := 3) [12, 13, 14, 15, 16, 17, 18, 19, 20, 21] [0, 1, 2, 3, 4, 5, 6, 7, 8, 9, 10, 11] [] (mX3_meanVisits l D cI mo z1 z2 z3 z4 z5 z6 z7 z8 z9 (nI N) hs cs mf ml M td lf laid piled prs thr) ⟨hx, hb, hml, hown, hts⟩ (cwV 0 hts gL_law_X3_meanVisits rfl rfl rfl (by decide +kernel) ⟨Nat.le_of_ble_eq_true rfl, Nat.le_of_ble_eq_true rfl⟩) pq_bl0 (fun _ _ _ => trivial) (hK.sub [0] rfl) hP hD hS hA rfl (by decide) rfl (by decide) (by decide) rfl rfl rfl rfl hl.1 rfl (Nat.le_of_ble_eq_true rfl) dL_law_1257 ⟨by show n + 0 + 0 ≤ 601024; omega, by show sl + 0 + 0 ≤ 7293034; omega⟩ (fun v w1 H locs d2 hd2 hq hP hD hS hz => ?_)
  obtain ⟨r2, rfl, hr2, rfl⟩ := hq
  have hP : va_P D vwCl (lwW o fo q h a0 a1 a2 a3 a4 a5 g b0 b1 mo z1 z2 z3 z4 z5 z6 z7 z8 z9 cI cL fi la B G pr (nI N) hs cs mf ml M td lf laid piled prs 0) H := hP
  have hD : va_D (fun q : Nat => s.heap.size ≤ q) (lwW o fo q h a0 a1 a2 a3 a4 a5 g b0 b1 mo z1 z2 z3 z4 z5 z6 z7 z8 z9 cI cL fi la B G pr (nI N) hs cs mf ml M td lf laid piled prs 0) := hD
  obtain ⟨hx, hb, hml, hown, hts, hX, hbl, hK, hE, hfl, hL⟩ := (C0.drawn d1).drawn d2
  rw [(st_cnt I).2.1, (st_cnt I).2.2] at hr2
  refine W.eq (g2 := F0 m 1260 ls [.double r2]) rfl ?_
  refine lv_dstore (lv' := [(7, .double r2), (5, .double r1), (4, .int (nI i)), (3, .ref o), (2, .ref mo), (1, .ref q), (0, .ref b)]) hx hb dL_law_1260 hl (by decide) rfl (fun ls hl => ?_)
  have hend : W p l ev room_1 ((s.setDrawn d1).setDrawn d2) m #[Value.ref b] below meth cd H locs (n + 0 + 0) (sl + 0 + 0) Q (F0 m 1288 ls []) := by
    refine lv_goto (tgt := 1291) hx hb dL_law_1288 (by decide) ?_
    refine W.widen (k := n + 6) (n := sl + 36) (by omega) (by omega) ?_
    have K2 : LK p l ev ((s.setDrawn d1).setDrawn d2) m b below meth cd Q o q h a0 a1 a2 a3 a4 a5 g b0 b1 mo z1 z2 z3 z4 z5 z6 z7 z8 z9 D cI cL i 1291 (n + 6) (sl + 36) := K d2 (hd1.trans hd2)
    exact K2 _ H locs ls ⟨_, _, _, _, _, _, _, _, _, _, _, _, _, _, _, _, _, _, _, rfl, rfl, I, hg, hpr⟩ hP hD hS (lv_sub hl [2, 3, 4, 5, 6] rfl)
  refine lv_dload hx hb dL_law_1262 (lv_at hl 1 rfl) ?_
  refine lv_dload hx hb dL_law_1264 (lv_at hl 0 rfl) ?_
  refine lv_dcmp hx hb dL_law_1266 ?_
  refine lv_if_eq (tgt := 1288) hx hb dL_law_1267 (by decide) (fun _ => hend) (fun c1 => ?_)
  obtain ⟨n1, n2⟩ := (dMean_cmp hr1 hr2).resolve_left c1
  refine lv_dload hx hb dL_law_1270 (lv_at hl 1 rfl) ?_
  refine lv_dload hx hb dL_law_1272 (lv_at hl 1 rfl) ?_
  refine lv_dcmp hx hb dL_law_1274 ?_
  refine lv_if_eq (tgt := 1286) hx hb dL_law_1275 (by decide) (fun c2 => absurd c2 n1) (fun _ => ?_)
  refine lv_dload hx hb dL_law_1278 (lv_at hl 0 rfl) ?_
  refine lv_dload hx hb dL_law_1280 (lv_at hl 0 rfl) ?_
  refine lv_dcmp hx hb dL_law_1282 ?_
  exact lv_if_ne (tgt := 1288) hx hb dL_law_1283 (by decide) (fun _ => hend) (fun c3 => absurd c3 n2)
