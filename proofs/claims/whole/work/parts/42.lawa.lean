/-! the law, case by case: the plain reads -/
set_option maxHeartbeats 4000000 in
set_option maxRecDepth 100000 in
theorem law_columns {p : Program} {l : Launch} {ev : Env} {s : State} {m : MethodId} {b L : Nat} {xs : Nat → Int32} {below : List Frame} {meth : Method} {cd : Code} {Q : State → Prop} {o q h a0 a1 a2 a3 a4 a5 g b0 b1 mo z1 z2 z3 z4 z5 z6 z7 z8 z9 : Nat} {D : va_G} {cI cL : ClassId} {i n sl : Nat} (C : LC p l s m meth cd b L xs D cI cL) (hi : i + 4 ≤ L) (hn : n + 6 ≤ 600000) (hsl : sl + 36 ≤ 7000000) (K : LK p l ev s m b below meth cd Q o q h a0 a1 a2 a3 a4 a5 g b0 b1 mo z1 z2 z3 z4 z5 z6 z7 z8 z9 D cI cL i 1291 (n + 6) (sl + 36)) : LK p l ev s m b below meth cd Q o q h a0 a1 a2 a3 a4 a5 g b0 b1 mo z1 z2 z3 z4 z5 z6 z7 z8 z9 D cI cL i 892 n sl := by
  obtain ⟨hx, hb, hml, hown, hts, hX, hbl, hK, hE, hfl, hL⟩ := C
  have hA : ∀ q : Nat, s.heap.size ≤ q → (fun q : Nat => s.heap.size ≤ q) q := fun _ h => h
  have hbA : ¬ (fun q : Nat => s.heap.size ≤ q) b := Nat.not_le.mpr hbl
  rintro w H locs ls ⟨fo, fi, la, B, G, pr, N, hs, cs, mf, ml, M, td, lf, laid, piled, prs, thr, col, rfl, rfl, I, hg, hpr⟩ hP hD hS hl
  have hN1 := I.1
  have hN2 := I.2.1
  have hNN : G.2.2.1 = nI N := I.2.2.2.2.2.2.2.2
  have hT := I.2.2.2.1
  have hN5 : N < 65 := by omega
  refine lv_aload_n hx hb dL_law_892 rfl (lv_at hl 3 rfl) ?_
  refine pq_callV (rest := []) (wr := (o, .inl (cL, 1, .inr (.inl fo))) :: mdW mo z1 z2 z3 z4 z5 z6 z7 z8 z9 cI (nI N) hs cs mf ml M td lf laid piled prs thr) (own := RL) (nL := 9) (q0 := 1) (ci := 2) [1, 2, 3, 4, 5, 6, 7, 8, 9, 10, 11] [0, 12, 13, 14, 15, 16, 17, 18, 19, 20, 21] [] (mX2_columns l D cI q h a0 a1 a2 a3 a4 a5 g b0 b1 fi la B G pr N hfl hNN hN1 hN2) ⟨hx, hb, hml, hown, hts⟩ (cwV 0 hts gL_law_X2_columns rfl rfl rfl (by decide +kernel) ⟨Nat.le_of_ble_eq_true rfl, Nat.le_of_ble_eq_true rfl⟩) pq_blE (hE.1.call hD hS hA [1, 2, 3, 4, 5, 6, 7, 8, 9, 10, 11] rfl) (hK.sub [0] rfl) hP hD hS hA rfl (by decide) rfl (by decide) (by decide) rfl rfl rfl rfl hl.1 rfl (Nat.le_of_ble_eq_true rfl) dL_law_893 ⟨by show n + 0 ≤ 601024; omega, by show sl + 0 ≤ 7293034; omega⟩ (fun v w1 H locs hq hP hD hS hz => ?_)
  obtain ⟨rfl, rfl⟩ := hq
  have hP : va_P D vwCl (lwW o fo q h a0 a1 a2 a3 a4 a5 g b0 b1 mo z1 z2 z3 z4 z5 z6 z7 z8 z9 cI cL fi la B G pr (nI N) hs cs mf ml M td lf laid piled prs thr) H := hP.sub [0, 11, 12, 13, 14, 15, 16, 17, 18, 19, 20, 21, 1, 2, 3, 4, 5, 6, 7, 8, 9, 10] rfl
  have hD : va_D (fun q : Nat => s.heap.size ≤ q) (lwW o fo q h a0 a1 a2 a3 a4 a5 g b0 b1 mo z1 z2 z3 z4 z5 z6 z7 z8 z9 cI cL fi la B G pr (nI N) hs cs mf ml M td lf laid piled prs thr) := hD.sub [0, 11, 12, 13, 14, 15, 16, 17, 18, 19, 20, 21, 1, 2, 3, 4, 5, 6, 7, 8, 9, 10] (by decide) rfl
  refine W.eq (g2 := F0 m 896 ls [.int G.2.2.1]) rfl ?_
  refine lv_aload_n hx hb dL_law_896 rfl (lv_at hl 2 rfl) ?_
  refine pq_callV (rest := [.int G.2.2.1]) (wr := (o, .inl (cL, 1, .inr (.inl fo))) :: ppW q h a0 a1 a2 a3 a4 a5 g b0 b1 cI fi la B G pr) (own := RL) (nL := 9) (q0 := 12) (ci := 3) [12, 13, 14, 15, 16, 17, 18, 19, 20, 21] [0, 1, 2, 3, 4, 5, 6, 7, 8, 9, 10, 11] [] (mX3_columns l D cI mo z1 z2 z3 z4 z5 z6 z7 z8 z9 (nI N) hs cs mf ml M td lf laid piled prs thr) ⟨hx, hb, hml, hown, hts⟩ (cwV 0 hts gL_law_X3_columns rfl rfl rfl (by decide +kernel) ⟨Nat.le_of_ble_eq_true rfl, Nat.le_of_ble_eq_true rfl⟩) pq_bl0 (fun _ _ _ => trivial) (hK.sub [0] rfl) hP hD hS hA rfl (by decide) rfl (by decide) (by decide) rfl rfl rfl rfl hl.1 rfl (Nat.le_of_ble_eq_true rfl) dL_law_897 ⟨by show n + 0 + 0 ≤ 601024; omega, by show sl + 0 + 0 ≤ 7293034; omega⟩ (fun v w1 H locs hq hP hD hS hz => ?_)
  obtain ⟨rfl, rfl⟩ := hq
  have hP : va_P D vwCl (lwW o fo q h a0 a1 a2 a3 a4 a5 g b0 b1 mo z1 z2 z3 z4 z5 z6 z7 z8 z9 cI cL fi la B G pr (nI N) hs cs mf ml M td lf laid piled prs 0) H := hP
  have hD : va_D (fun q : Nat => s.heap.size ≤ q) (lwW o fo q h a0 a1 a2 a3 a4 a5 g b0 b1 mo z1 z2 z3 z4 z5 z6 z7 z8 z9 cI cL fi la B G pr (nI N) hs cs mf ml M td lf laid piled prs 0) := hD
  refine W.eq (g2 := F0 m 900 ls [.int (nI N), .int G.2.2.1]) rfl ?_
  refine lv_icmp_eq (tgt := 1291) hx hb dL_law_900 (by decide) (fun _ => ?_) (fun c9 => absurd (hNN) c9)
  refine W.widen (k := n + 6) (n := sl + 36) (by omega) (by omega) ?_
  exact K _ H locs ls ⟨_, _, _, _, _, _, _, _, _, _, _, _, _, _, _, _, _, _, _, rfl, rfl, I, hg, hpr⟩ hP hD hS (lv_sub hl [0, 1, 2, 3, 4] rfl)

set_option maxHeartbeats 4000000 in
set_option maxRecDepth 100000 in
theorem law_lagging {p : Program} {l : Launch} {ev : Env} {s : State} {m : MethodId} {b L : Nat} {xs : Nat → Int32} {below : List Frame} {meth : Method} {cd : Code} {Q : State → Prop} {o q h a0 a1 a2 a3 a4 a5 g b0 b1 mo z1 z2 z3 z4 z5 z6 z7 z8 z9 : Nat} {D : va_G} {cI cL : ClassId} {i n sl : Nat} (C : LC p l s m meth cd b L xs D cI cL) (hi : i + 4 ≤ L) (hn : n + 6 ≤ 600000) (hsl : sl + 36 ≤ 7000000) (K : LK p l ev s m b below meth cd Q o q h a0 a1 a2 a3 a4 a5 g b0 b1 mo z1 z2 z3 z4 z5 z6 z7 z8 z9 D cI cL i 1291 (n + 6) (sl + 36)) : LK p l ev s m b below meth cd Q o q h a0 a1 a2 a3 a4 a5 g b0 b1 mo z1 z2 z3 z4 z5 z6 z7 z8 z9 D cI cL i 1185 n sl := by
  obtain ⟨hx, hb, hml, hown, hts, hX, hbl, hK, hE, hfl, hL⟩ := C
  have hA : ∀ q : Nat, s.heap.size ≤ q → (fun q : Nat => s.heap.size ≤ q) q := fun _ h => h
  have hbA : ¬ (fun q : Nat => s.heap.size ≤ q) b := Nat.not_le.mpr hbl
  rintro w H locs ls ⟨fo, fi, la, B, G, pr, N, hs, cs, mf, ml, M, td, lf, laid, piled, prs, thr, col, rfl, rfl, I, hg, hpr⟩ hP hD hS hl
  have hN1 := I.1
  have hN2 := I.2.1
  have hNN : G.2.2.1 = nI N := I.2.2.2.2.2.2.2.2
  have hT := I.2.2.2.1
  have hN5 : N < 65 := by omega
  refine lv_aload_n hx hb dL_law_1185 rfl (lv_at hl 3 rfl) ?_
  refine pq_callV (rest := []) (wr := (o, .inl (cL, 1, .inr (.inl fo))) :: mdW mo z1 z2 z3 z4 z5 z6 z7 z8 z9 cI (nI N) hs cs mf ml M td lf laid piled prs thr) (own := RL) (nL := 9) (q0 := 1) (ci := 2) [1, 2, 3, 4, 5, 6, 7, 8, 9, 10, 11] [0, 12, 13, 14, 15, 16, 17, 18, 19, 20, 21] [] (mX2_lagging l D cI q h a0 a1 a2 a3 a4 a5 g b0 b1 fi la B G pr N hfl hNN hN1 hN2) ⟨hx, hb, hml, hown, hts⟩ (cwV 0 hts gL_law_X2_lagging rfl rfl rfl (by decide +kernel) ⟨Nat.le_of_ble_eq_true rfl, Nat.le_of_ble_eq_true rfl⟩) pq_blE (hE.1.call hD hS hA [1, 2, 3, 4, 5, 6, 7, 8, 9, 10, 11] rfl) (hK.sub [0] rfl) hP hD hS hA rfl (by decide) rfl (by decide) (by decide) rfl rfl rfl rfl hl.1 rfl (Nat.le_of_ble_eq_true rfl) dL_law_1186 ⟨by show n + 0 ≤ 601024; omega, by show sl + 0 ≤ 7293034; omega⟩ (fun v w1 H locs hq hP hD hS hz => ?_)
  obtain ⟨rfl, rfl⟩ := hq
  have hP : va_P D vwCl (lwW o fo q h a0 a1 a2 a3 a4 a5 g b0 b1 mo z1 z2 z3 z4 z5 z6 z7 z8 z9 cI cL fi la B G pr (nI N) hs cs mf ml M td lf laid piled prs thr) H := hP.sub [0, 11, 12, 13, 14, 15, 16, 17, 18, 19, 20, 21, 1, 2, 3, 4, 5, 6, 7, 8, 9, 10] rfl
  have hD : va_D (fun q : Nat => s.heap.size ≤ q) (lwW o fo q h a0 a1 a2 a3 a4 a5 g b0 b1 mo z1 z2 z3 z4 z5 z6 z7 z8 z9 cI cL fi la B G pr (nI N) hs cs mf ml M td lf laid piled prs thr) := hD.sub [0, 11, 12, 13, 14, 15, 16, 17, 18, 19, 20, 21, 1, 2, 3, 4, 5, 6, 7, 8, 9, 10] (by decide) rfl
  refine W.eq (g2 := F0 m 1189 ls [.int (bLags la B 126)]) rfl ?_
  refine lv_aload_n hx hb dL_law_1189 rfl (lv_at hl 2 rfl) ?_
  refine pq_callV (rest := [.int (bLags la B 126)]) (wr := (o, .inl (cL, 1, .inr (.inl fo))) :: ppW q h a0 a1 a2 a3 a4 a5 g b0 b1 cI fi la B G pr) (own := RL) (nL := 9) (q0 := 12) (ci := 3) [12, 13, 14, 15, 16, 17, 18, 19, 20, 21] [0, 1, 2, 3, 4, 5, 6, 7, 8, 9, 10, 11] [] (mX3_lagging l D cI mo z1 z2 z3 z4 z5 z6 z7 z8 z9 (nI N) hs cs mf ml M td lf laid piled prs thr) ⟨hx, hb, hml, hown, hts⟩ (cwV 0 hts gL_law_X3_lagging rfl rfl rfl (by decide +kernel) ⟨Nat.le_of_ble_eq_true rfl, Nat.le_of_ble_eq_true rfl⟩) pq_bl0 (fun _ _ _ => trivial) (hK.sub [0] rfl) hP hD hS hA rfl (by decide) rfl (by decide) (by decide) rfl rfl rfl rfl hl.1 rfl (Nat.le_of_ble_eq_true rfl) dL_law_1190 ⟨by show n + 0 + 0 ≤ 601024; omega, by show sl + 0 + 0 ≤ 7293034; omega⟩ (fun v w1 H locs hq hP hD hS hz => ?_)
  obtain ⟨rfl, rfl⟩ := hq
  have hP : va_P D vwCl (lwW o fo q h a0 a1 a2 a3 a4 a5 g b0 b1 mo z1 z2 z3 z4 z5 z6 z7 z8 z9 cI cL fi la B G pr (nI N) hs cs mf ml M td lf laid piled prs 0) H := hP
  have hD : va_D (fun q : Nat => s.heap.size ≤ q) (lwW o fo q h a0 a1 a2 a3 a4 a5 g b0 b1 mo z1 z2 z3 z4 z5 z6 z7 z8 z9 cI cL fi la B G pr (nI N) hs cs mf ml M td lf laid piled prs 0) := hD
  refine W.eq (g2 := F0 m 1193 ls [.int (mLags mf M 126), .int (bLags la B 126)]) rfl ?_
  refine lv_icmp_eq (tgt := 1291) hx hb dL_law_1193 (by decide) (fun _ => ?_) (fun c9 => absurd (iv_lags I) c9)
  refine W.widen (k := n + 6) (n := sl + 36) (by omega) (by omega) ?_
  exact K _ H locs ls ⟨_, _, _, _, _, _, _, _, _, _, _, _, _, _, _, _, _, _, _, rfl, rfl, I, hg, hpr⟩ hP hD hS (lv_sub hl [0, 1, 2, 3, 4] rfl)

set_option maxHeartbeats 4000000 in
set_option maxRecDepth 100000 in
theorem law_visits {p : Program} {l : Launch} {ev : Env} {s : State} {m : MethodId} {b L : Nat} {xs : Nat → Int32} {below : List Frame} {meth : Method} {cd : Code} {Q : State → Prop} {o q h a0 a1 a2 a3 a4 a5 g b0 b1 mo z1 z2 z3 z4 z5 z6 z7 z8 z9 : Nat} {D : va_G} {cI cL : ClassId} {i n sl : Nat} (C : LC p l s m meth cd b L xs D cI cL) (hi : i + 4 ≤ L) (hn : n + 6 ≤ 600000) (hsl : sl + 36 ≤ 7000000) (K : LK p l ev s m b below meth cd Q o q h a0 a1 a2 a3 a4 a5 g b0 b1 mo z1 z2 z3 z4 z5 z6 z7 z8 z9 D cI cL i 1291 (n + 6) (sl + 36)) : LK p l ev s m b below meth cd Q o q h a0 a1 a2 a3 a4 a5 g b0 b1 mo z1 z2 z3 z4 z5 z6 z7 z8 z9 D cI cL i 1198 n sl := by
  obtain ⟨hx, hb, hml, hown, hts, hX, hbl, hK, hE, hfl, hL⟩ := C
  have hA : ∀ q : Nat, s.heap.size ≤ q → (fun q : Nat => s.heap.size ≤ q) q := fun _ h => h
  have hbA : ¬ (fun q : Nat => s.heap.size ≤ q) b := Nat.not_le.mpr hbl
  rintro w H locs ls ⟨fo, fi, la, B, G, pr, N, hs, cs, mf, ml, M, td, lf, laid, piled, prs, thr, col, rfl, rfl, I, hg, hpr⟩ hP hD hS hl
  have hN1 := I.1
  have hN2 := I.2.1
  have hNN : G.2.2.1 = nI N := I.2.2.2.2.2.2.2.2
  have hT := I.2.2.2.1
  have hN5 : N < 65 := by omega
  refine lv_aload_n hx hb dL_law_1198 rfl (lv_at hl 3 rfl) ?_
  refine pq_callV (rest := []) (wr := (o, .inl (cL, 1, .inr (.inl fo))) :: mdW mo z1 z2 z3 z4 z5 z6 z7 z8 z9 cI (nI N) hs cs mf ml M td lf laid piled prs thr) (own := RL) (nL := 9) (q0 := 1) (ci := 2) [1, 2, 3, 4, 5, 6, 7, 8, 9, 10, 11] [0, 12, 13, 14, 15, 16, 17, 18, 19, 20, 21] [] (mX2_visits l D cI q h a0 a1 a2 a3 a4 a5 g b0 b1 fi la B G pr N hfl hNN hN1 hN2) ⟨hx, hb, hml, hown, hts⟩ (cwV 0 hts gL_law_X2_visits rfl rfl rfl (by decide +kernel) ⟨Nat.le_of_ble_eq_true rfl, Nat.le_of_ble_eq_true rfl⟩) pq_blE (hE.1.call hD hS hA [1, 2, 3, 4, 5, 6, 7, 8, 9, 10, 11] rfl) (hK.sub [0] rfl) hP hD hS hA rfl (by decide) rfl (by decide) (by decide) rfl rfl rfl rfl hl.1 rfl (Nat.le_of_ble_eq_true rfl) dL_law_1199 ⟨by show n + 0 ≤ 601024; omega, by show sl + 0 ≤ 7293034; omega⟩ (fun v w1 H locs hq hP hD hS hz => ?_)
  obtain ⟨rfl, rfl⟩ := hq
  have hP : va_P D vwCl (lwW o fo q h a0 a1 a2 a3 a4 a5 g b0 b1 mo z1 z2 z3 z4 z5 z6 z7 z8 z9 cI cL fi la B G pr (nI N) hs cs mf ml M td lf laid piled prs thr) H := hP.sub [0, 11, 12, 13, 14, 15, 16, 17, 18, 19, 20, 21, 1, 2, 3, 4, 5, 6, 7, 8, 9, 10] rfl
  have hD : va_D (fun q : Nat => s.heap.size ≤ q) (lwW o fo q h a0 a1 a2 a3 a4 a5 g b0 b1 mo z1 z2 z3 z4 z5 z6 z7 z8 z9 cI cL fi la B G pr (nI N) hs cs mf ml M td lf laid piled prs thr) := hD.sub [0, 11, 12, 13, 14, 15, 16, 17, 18, 19, 20, 21, 1, 2, 3, 4, 5, 6, 7, 8, 9, 10] (by decide) rfl
  refine W.eq (g2 := F0 m 1202 ls [.int B.2.2.2.2.1]) rfl ?_
  refine lv_aload_n hx hb dL_law_1202 rfl (lv_at hl 2 rfl) ?_
  refine pq_callV (rest := [.int B.2.2.2.2.1]) (wr := (o, .inl (cL, 1, .inr (.inl fo))) :: ppW q h a0 a1 a2 a3 a4 a5 g b0 b1 cI fi la B G pr) (own := RL) (nL := 9) (q0 := 12) (ci := 3) [12, 13, 14, 15, 16, 17, 18, 19, 20, 21] [0, 1, 2, 3, 4, 5, 6, 7, 8, 9, 10, 11] [] (mX3_visits l D cI mo z1 z2 z3 z4 z5 z6 z7 z8 z9 (nI N) hs cs mf ml M td lf laid piled prs thr) ⟨hx, hb, hml, hown, hts⟩ (cwV 0 hts gL_law_X3_visits rfl rfl rfl (by decide +kernel) ⟨Nat.le_of_ble_eq_true rfl, Nat.le_of_ble_eq_true rfl⟩) pq_bl0 (fun _ _ _ => trivial) (hK.sub [0] rfl) hP hD hS hA rfl (by decide) rfl (by decide) (by decide) rfl rfl rfl rfl hl.1 rfl (Nat.le_of_ble_eq_true rfl) dL_law_1203 ⟨by show n + 0 + 0 ≤ 601024; omega, by show sl + 0 + 0 ≤ 7293034; omega⟩ (fun v w1 H locs hq hP hD hS hz => ?_)
  obtain ⟨rfl, rfl⟩ := hq
  have hP : va_P D vwCl (lwW o fo q h a0 a1 a2 a3 a4 a5 g b0 b1 mo z1 z2 z3 z4 z5 z6 z7 z8 z9 cI cL fi la B G pr (nI N) hs cs mf ml M td lf laid piled prs 0) H := hP
  have hD : va_D (fun q : Nat => s.heap.size ≤ q) (lwW o fo q h a0 a1 a2 a3 a4 a5 g b0 b1 mo z1 z2 z3 z4 z5 z6 z7 z8 z9 cI cL fi la B G pr (nI N) hs cs mf ml M td lf laid piled prs 0) := hD
  refine W.eq (g2 := F0 m 1206 ls [.int M.2.2.2.2.1, .int B.2.2.2.2.1]) rfl ?_
  refine lv_icmp_eq (tgt := 1291) hx hb dL_law_1206 (by decide) (fun _ => ?_) (fun c9 => absurd ((st_cnt I).1.symm) c9)
  refine W.widen (k := n + 6) (n := sl + 36) (by omega) (by omega) ?_
  exact K _ H locs ls ⟨_, _, _, _, _, _, _, _, _, _, _, _, _, _, _, _, _, _, _, rfl, rfl, I, hg, hpr⟩ hP hD hS (lv_sub hl [0, 1, 2, 3, 4] rfl)

set_option maxHeartbeats 4000000 in
set_option maxRecDepth 100000 in
theorem law_allVisits {p : Program} {l : Launch} {ev : Env} {s : State} {m : MethodId} {b L : Nat} {xs : Nat → Int32} {below : List Frame} {meth : Method} {cd : Code} {Q : State → Prop} {o q h a0 a1 a2 a3 a4 a5 g b0 b1 mo z1 z2 z3 z4 z5 z6 z7 z8 z9 : Nat} {D : va_G} {cI cL : ClassId} {i n sl : Nat} (C : LC p l s m meth cd b L xs D cI cL) (hi : i + 4 ≤ L) (hn : n + 6 ≤ 600000) (hsl : sl + 36 ≤ 7000000) (K : LK p l ev s m b below meth cd Q o q h a0 a1 a2 a3 a4 a5 g b0 b1 mo z1 z2 z3 z4 z5 z6 z7 z8 z9 D cI cL i 1291 (n + 6) (sl + 36)) : LK p l ev s m b below meth cd Q o q h a0 a1 a2 a3 a4 a5 g b0 b1 mo z1 z2 z3 z4 z5 z6 z7 z8 z9 D cI cL i 1211 n sl := by
  obtain ⟨hx, hb, hml, hown, hts, hX, hbl, hK, hE, hfl, hL⟩ := C
  have hA : ∀ q : Nat, s.heap.size ≤ q → (fun q : Nat => s.heap.size ≤ q) q := fun _ h => h
  have hbA : ¬ (fun q : Nat => s.heap.size ≤ q) b := Nat.not_le.mpr hbl
  rintro w H locs ls ⟨fo, fi, la, B, G, pr, N, hs, cs, mf, ml, M, td, lf, laid, piled, prs, thr, col, rfl, rfl, I, hg, hpr⟩ hP hD hS hl
  have hN1 := I.1
  have hN2 := I.2.1
  have hNN : G.2.2.1 = nI N := I.2.2.2.2.2.2.2.2
  have hT := I.2.2.2.1
  have hN5 : N < 65 := by omega
  refine lv_aload_n hx hb dL_law_1211 rfl (lv_at hl 3 rfl) ?_
  refine pq_callV (rest := []) (wr := (o, .inl (cL, 1, .inr (.inl fo))) :: mdW mo z1 z2 z3 z4 z5 z6 z7 z8 z9 cI (nI N) hs cs mf ml M td lf laid piled prs thr) (own := RL) (nL := 9) (q0 := 1) (ci := 2) [1, 2, 3, 4, 5, 6, 7, 8, 9, 10, 11] [0, 12, 13, 14, 15, 16, 17, 18, 19, 20, 21] [] (mX2_allVisits l D cI q h a0 a1 a2 a3 a4 a5 g b0 b1 fi la B G pr N hfl hNN hN1 hN2) ⟨hx, hb, hml, hown, hts⟩ (cwV 0 hts gL_law_X2_allVisits rfl rfl rfl (by decide +kernel) ⟨Nat.le_of_ble_eq_true rfl, Nat.le_of_ble_eq_true rfl⟩) pq_blE (hE.1.call hD hS hA [1, 2, 3, 4, 5, 6, 7, 8, 9, 10, 11] rfl) (hK.sub [0] rfl) hP hD hS hA rfl (by decide) rfl (by decide) (by decide) rfl rfl rfl rfl hl.1 rfl (Nat.le_of_ble_eq_true rfl) dL_law_1212 ⟨by show n + 0 ≤ 601024; omega, by show sl + 0 ≤ 7293034; omega⟩ (fun v w1 H locs hq hP hD hS hz => ?_)
  obtain ⟨rfl, rfl⟩ := hq
  have hP : va_P D vwCl (lwW o fo q h a0 a1 a2 a3 a4 a5 g b0 b1 mo z1 z2 z3 z4 z5 z6 z7 z8 z9 cI cL fi la B G pr (nI N) hs cs mf ml M td lf laid piled prs thr) H := hP.sub [0, 11, 12, 13, 14, 15, 16, 17, 18, 19, 20, 21, 1, 2, 3, 4, 5, 6, 7, 8, 9, 10] rfl
  have hD : va_D (fun q : Nat => s.heap.size ≤ q) (lwW o fo q h a0 a1 a2 a3 a4 a5 g b0 b1 mo z1 z2 z3 z4 z5 z6 z7 z8 z9 cI cL fi la B G pr (nI N) hs cs mf ml M td lf laid piled prs thr) := hD.sub [0, 11, 12, 13, 14, 15, 16, 17, 18, 19, 20, 21, 1, 2, 3, 4, 5, 6, 7, 8, 9, 10] (by decide) rfl
  refine W.eq (g2 := F0 m 1215 ls [.int B.2.2.2.2.2.1]) rfl ?_
  refine lv_aload_n hx hb dL_law_1215 rfl (lv_at hl 2 rfl) ?_
  refine pq_callV (rest := [.int B.2.2.2.2.2.1]) (wr := (o, .inl (cL, 1, .inr (.inl fo))) :: ppW q h a0 a1 a2 a3 a4 a5 g b0 b1 cI fi la B G pr) (own := RL) (nL := 9) (q0 := 12) (ci := 3) [12, 13, 14, 15, 16, 17, 18, 19, 20, 21] [0, 1, 2, 3, 4, 5, 6, 7, 8, 9, 10, 11] [] (mX3_allVisits l D cI mo z1 z2 z3 z4 z5 z6 z7 z8 z9 (nI N) hs cs mf ml M td lf laid piled prs thr) ⟨hx, hb, hml, hown, hts⟩ (cwV 0 hts gL_law_X3_allVisits rfl rfl rfl (by decide +kernel) ⟨Nat.le_of_ble_eq_true rfl, Nat.le_of_ble_eq_true rfl⟩) pq_bl0 (fun _ _ _ => trivial) (hK.sub [0] rfl) hP hD hS hA rfl (by decide) rfl (by decide) (by decide) rfl rfl rfl rfl hl.1 rfl (Nat.le_of_ble_eq_true rfl) dL_law_1216 ⟨by show n + 0 + 0 ≤ 601024; omega, by show sl + 0 + 0 ≤ 7293034; omega⟩ (fun v w1 H locs hq hP hD hS hz => ?_)
  obtain ⟨rfl, rfl⟩ := hq
  have hP : va_P D vwCl (lwW o fo q h a0 a1 a2 a3 a4 a5 g b0 b1 mo z1 z2 z3 z4 z5 z6 z7 z8 z9 cI cL fi la B G pr (nI N) hs cs mf ml M td lf laid piled prs 0) H := hP
  have hD : va_D (fun q : Nat => s.heap.size ≤ q) (lwW o fo q h a0 a1 a2 a3 a4 a5 g b0 b1 mo z1 z2 z3 z4 z5 z6 z7 z8 z9 cI cL fi la B G pr (nI N) hs cs mf ml M td lf laid piled prs 0) := hD
  refine W.eq (g2 := F0 m 1219 ls [.int M.2.2.2.2.2.1, .int B.2.2.2.2.2.1]) rfl ?_
  refine lv_icmp_eq (tgt := 1291) hx hb dL_law_1219 (by decide) (fun _ => ?_) (fun c9 => absurd ((st_cnt I).2.1.symm) c9)
  refine W.widen (k := n + 6) (n := sl + 36) (by omega) (by omega) ?_
  exact K _ H locs ls ⟨_, _, _, _, _, _, _, _, _, _, _, _, _, _, _, _, _, _, _, rfl, rfl, I, hg, hpr⟩ hP hD hS (lv_sub hl [0, 1, 2, 3, 4] rfl)

set_option maxHeartbeats 4000000 in
set_option maxRecDepth 100000 in
theorem law_pressedAway {p : Program} {l : Launch} {ev : Env} {s : State} {m : MethodId} {b L : Nat} {xs : Nat → Int32} {below : List Frame} {meth : Method} {cd : Code} {Q : State → Prop} {o q h a0 a1 a2 a3 a4 a5 g b0 b1 mo z1 z2 z3 z4 z5 z6 z7 z8 z9 : Nat} {D : va_G} {cI cL : ClassId} {i n sl : Nat} (C : LC p l s m meth cd b L xs D cI cL) (hi : i + 4 ≤ L) (hn : n + 6 ≤ 600000) (hsl : sl + 36 ≤ 7000000) (K : LK p l ev s m b below meth cd Q o q h a0 a1 a2 a3 a4 a5 g b0 b1 mo z1 z2 z3 z4 z5 z6 z7 z8 z9 D cI cL i 1291 (n + 6) (sl + 36)) : LK p l ev s m b below meth cd Q o q h a0 a1 a2 a3 a4 a5 g b0 b1 mo z1 z2 z3 z4 z5 z6 z7 z8 z9 D cI cL i 1224 n sl := by
  obtain ⟨hx, hb, hml, hown, hts, hX, hbl, hK, hE, hfl, hL⟩ := C
  have hA : ∀ q : Nat, s.heap.size ≤ q → (fun q : Nat => s.heap.size ≤ q) q := fun _ h => h
  have hbA : ¬ (fun q : Nat => s.heap.size ≤ q) b := Nat.not_le.mpr hbl
  rintro w H locs ls ⟨fo, fi, la, B, G, pr, N, hs, cs, mf, ml, M, td, lf, laid, piled, prs, thr, col, rfl, rfl, I, hg, hpr⟩ hP hD hS hl
  have hN1 := I.1
  have hN2 := I.2.1
  have hNN : G.2.2.1 = nI N := I.2.2.2.2.2.2.2.2
  have hT := I.2.2.2.1
  have hN5 : N < 65 := by omega
  refine lv_aload_n hx hb dL_law_1224 rfl (lv_at hl 3 rfl) ?_
  refine pq_callV (rest := []) (wr := (o, .inl (cL, 1, .inr (.inl fo))) :: mdW mo z1 z2 z3 z4 z5 z6 z7 z8 z9 cI (nI N) hs cs mf ml M td lf laid piled prs thr) (own := RL) (nL := 9) (q0 := 1) (ci := 2) [1, 2, 3, 4, 5, 6, 7, 8, 9, 10, 11] [0, 12, 13, 14, 15, 16, 17, 18, 19, 20, 21] [] (mX2_pressedAway l D cI q h a0 a1 a2 a3 a4 a5 g b0 b1 fi la B G pr N hfl hNN hN1 hN2) ⟨hx, hb, hml, hown, hts⟩ (cwV 0 hts gL_law_X2_pressedAway rfl rfl rfl (by decide +kernel) ⟨Nat.le_of_ble_eq_true rfl, Nat.le_of_ble_eq_true rfl⟩) pq_blE (hE.1.call hD hS hA [1, 2, 3, 4, 5, 6, 7, 8, 9, 10, 11] rfl) (hK.sub [0] rfl) hP hD hS hA rfl (by decide) rfl (by decide) (by decide) rfl rfl rfl rfl hl.1 rfl (Nat.le_of_ble_eq_true rfl) dL_law_1225 ⟨by show n + 0 ≤ 601024; omega, by show sl + 0 ≤ 7293034; omega⟩ (fun v w1 H locs hq hP hD hS hz => ?_)
  obtain ⟨rfl, rfl⟩ := hq
  have hP : va_P D vwCl (lwW o fo q h a0 a1 a2 a3 a4 a5 g b0 b1 mo z1 z2 z3 z4 z5 z6 z7 z8 z9 cI cL fi la B G pr (nI N) hs cs mf ml M td lf laid piled prs thr) H := hP.sub [0, 11, 12, 13, 14, 15, 16, 17, 18, 19, 20, 21, 1, 2, 3, 4, 5, 6, 7, 8, 9, 10] rfl
  have hD : va_D (fun q : Nat => s.heap.size ≤ q) (lwW o fo q h a0 a1 a2 a3 a4 a5 g b0 b1 mo z1 z2 z3 z4 z5 z6 z7 z8 z9 cI cL fi la B G pr (nI N) hs cs mf ml M td lf laid piled prs thr) := hD.sub [0, 11, 12, 13, 14, 15, 16, 17, 18, 19, 20, 21, 1, 2, 3, 4, 5, 6, 7, 8, 9, 10] (by decide) rfl
  refine W.eq (g2 := F0 m 1228 ls [.int pr]) rfl ?_
  refine lv_aload_n hx hb dL_law_1228 rfl (lv_at hl 2 rfl) ?_
  refine pq_callV (rest := [.int pr]) (wr := (o, .inl (cL, 1, .inr (.inl fo))) :: ppW q h a0 a1 a2 a3 a4 a5 g b0 b1 cI fi la B G pr) (own := RL) (nL := 9) (q0 := 12) (ci := 3) [12, 13, 14, 15, 16, 17, 18, 19, 20, 21] [0, 1, 2, 3, 4, 5, 6, 7, 8, 9, 10, 11] [] (mX3_pressedAway l D cI mo z1 z2 z3 z4 z5 z6 z7 z8 z9 (nI N) hs cs mf ml M td lf laid piled prs thr) ⟨hx, hb, hml, hown, hts⟩ (cwV 0 hts gL_law_X3_pressedAway rfl rfl rfl (by decide +kernel) ⟨Nat.le_of_ble_eq_true rfl, Nat.le_of_ble_eq_true rfl⟩) pq_bl0 (fun _ _ _ => trivial) (hK.sub [0] rfl) hP hD hS hA rfl (by decide) rfl (by decide) (by decide) rfl rfl rfl rfl hl.1 rfl (Nat.le_of_ble_eq_true rfl) dL_law_1229 ⟨by show n + 0 + 0 ≤ 601024; omega, by show sl + 0 + 0 ≤ 7293034; omega⟩ (fun v w1 H locs hq hP hD hS hz => ?_)
  obtain ⟨rfl, rfl⟩ := hq
  have hP : va_P D vwCl (lwW o fo q h a0 a1 a2 a3 a4 a5 g b0 b1 mo z1 z2 z3 z4 z5 z6 z7 z8 z9 cI cL fi la B G pr (nI N) hs cs mf ml M td lf laid piled prs 0) H := hP
  have hD : va_D (fun q : Nat => s.heap.size ≤ q) (lwW o fo q h a0 a1 a2 a3 a4 a5 g b0 b1 mo z1 z2 z3 z4 z5 z6 z7 z8 z9 cI cL fi la B G pr (nI N) hs cs mf ml M td lf laid piled prs 0) := hD
  refine W.eq (g2 := F0 m 1232 ls [.int prs, .int pr]) rfl ?_
  refine lv_icmp_eq (tgt := 1291) hx hb dL_law_1232 (by decide) (fun _ => ?_) (fun c9 => absurd (hpr) c9)
  refine W.widen (k := n + 6) (n := sl + 36) (by omega) (by omega) ?_
  exact K _ H locs ls ⟨_, _, _, _, _, _, _, _, _, _, _, _, _, _, _, _, _, _, _, rfl, rfl, I, hg, hpr⟩ hP hD hS (lv_sub hl [0, 1, 2, 3, 4] rfl)

set_option maxHeartbeats 4000000 in
set_option maxRecDepth 100000 in
theorem law_pressedAwayByRest {p : Program} {l : Launch} {ev : Env} {s : State} {m : MethodId} {b L : Nat} {xs : Nat → Int32} {below : List Frame} {meth : Method} {cd : Code} {Q : State → Prop} {o q h a0 a1 a2 a3 a4 a5 g b0 b1 mo z1 z2 z3 z4 z5 z6 z7 z8 z9 : Nat} {D : va_G} {cI cL : ClassId} {i n sl : Nat} (C : LC p l s m meth cd b L xs D cI cL) (hi : i + 4 ≤ L) (hn : n + 6 ≤ 600000) (hsl : sl + 36 ≤ 7000000) (K : LK p l ev s m b below meth cd Q o q h a0 a1 a2 a3 a4 a5 g b0 b1 mo z1 z2 z3 z4 z5 z6 z7 z8 z9 D cI cL i 1291 (n + 6) (sl + 36)) : LK p l ev s m b below meth cd Q o q h a0 a1 a2 a3 a4 a5 g b0 b1 mo z1 z2 z3 z4 z5 z6 z7 z8 z9 D cI cL i 1237 n sl := by
  obtain ⟨hx, hb, hml, hown, hts, hX, hbl, hK, hE, hfl, hL⟩ := C
  have hA : ∀ q : Nat, s.heap.size ≤ q → (fun q : Nat => s.heap.size ≤ q) q := fun _ h => h
  have hbA : ¬ (fun q : Nat => s.heap.size ≤ q) b := Nat.not_le.mpr hbl
  rintro w H locs ls ⟨fo, fi, la, B, G, pr, N, hs, cs, mf, ml, M, td, lf, laid, piled, prs, thr, col, rfl, rfl, I, hg, hpr⟩ hP hD hS hl
  have hN1 := I.1
  have hN2 := I.2.1
  have hNN : G.2.2.1 = nI N := I.2.2.2.2.2.2.2.2
  have hT := I.2.2.2.1
  have hN5 : N < 65 := by omega
  refine lv_aload_n hx hb dL_law_1237 rfl (lv_at hl 3 rfl) ?_
  refine pq_callV (rest := []) (wr := (o, .inl (cL, 1, .inr (.inl fo))) :: mdW mo z1 z2 z3 z4 z5 z6 z7 z8 z9 cI (nI N) hs cs mf ml M td lf laid piled prs thr) (own := RL) (nL := 9) (q0 := 1) (ci := 2) [1, 2, 3, 4, 5, 6, 7, 8, 9, 10, 11] [0, 12, 13, 14, 15, 16, 17, 18, 19, 20, 21] [] (mX2_pressedAwayByRest l D cI q h a0 a1 a2 a3 a4 a5 g b0 b1 fi la B G pr N hfl hNN hN1 hN2) ⟨hx, hb, hml, hown, hts⟩ (cwV 0 hts gL_law_X2_pressedAwayByRest rfl rfl rfl (by decide +kernel) ⟨Nat.le_of_ble_eq_true rfl, Nat.le_of_ble_eq_true rfl⟩) pq_blE (hE.1.call hD hS hA [1, 2, 3, 4, 5, 6, 7, 8, 9, 10, 11] rfl) (hK.sub [0] rfl) hP hD hS hA rfl (by decide) rfl (by decide) (by decide) rfl rfl rfl rfl hl.1 rfl (Nat.le_of_ble_eq_true rfl) dL_law_1238 ⟨by show n + 0 ≤ 601024; omega, by show sl + 0 ≤ 7293034; omega⟩ (fun v w1 H locs hq hP hD hS hz => ?_)
  obtain ⟨rfl, rfl⟩ := hq
  have hP : va_P D vwCl (lwW o fo q h a0 a1 a2 a3 a4 a5 g b0 b1 mo z1 z2 z3 z4 z5 z6 z7 z8 z9 cI cL fi la B G pr (nI N) hs cs mf ml M td lf laid piled prs thr) H := hP.sub [0, 11, 12, 13, 14, 15, 16, 17, 18, 19, 20, 21, 1, 2, 3, 4, 5, 6, 7, 8, 9, 10] rfl
  have hD : va_D (fun q : Nat => s.heap.size ≤ q) (lwW o fo q h a0 a1 a2 a3 a4 a5 g b0 b1 mo z1 z2 z3 z4 z5 z6 z7 z8 z9 cI cL fi la B G pr (nI N) hs cs mf ml M td lf laid piled prs thr) := hD.sub [0, 11, 12, 13, 14, 15, 16, 17, 18, 19, 20, 21, 1, 2, 3, 4, 5, 6, 7, 8, 9, 10] (by decide) rfl
  refine W.eq (g2 := F0 m 1241 ls [.int (G.2.2.2 - gAbove G.1 0 (N - 1 + 1 - 0) 0)]) rfl ?_
  refine lv_aload_n hx hb dL_law_1241 rfl (lv_at hl 2 rfl) ?_
  refine pq_callV (rest := [.int (G.2.2.2 - gAbove G.1 0 (N - 1 + 1 - 0) 0)]) (wr := (o, .inl (cL, 1, .inr (.inl fo))) :: ppW q h a0 a1 a2 a3 a4 a5 g b0 b1 cI fi la B G pr) (own := RL) (nL := 9) (q0 := 12) (ci := 3) [12, 13, 14, 15, 16, 17, 18, 19, 20, 21] [0, 1, 2, 3, 4, 5, 6, 7, 8, 9, 10, 11] [] (mX3_pressedAwayByRest l D cI mo z1 z2 z3 z4 z5 z6 z7 z8 z9 (nI N) hs cs mf ml M td lf laid piled prs thr N rfl hN1 hN2) ⟨hx, hb, hml, hown, hts⟩ (cwV 0 hts gL_law_X3_pressedAwayByRest rfl rfl rfl (by decide +kernel) ⟨Nat.le_of_ble_eq_true rfl, Nat.le_of_ble_eq_true rfl⟩) pq_bl0 (fun _ _ _ => trivial) (hK.sub [0] rfl) hP hD hS hA rfl (by decide) rfl (by decide) (by decide) rfl rfl rfl rfl hl.1 rfl (Nat.le_of_ble_eq_true rfl) dL_law_1242 ⟨by show n + 0 + 0 ≤ 601024; omega, by show sl + 0 + 0 ≤ 7293034; omega⟩ (fun v w1 H locs hq hP hD hS hz => ?_)
  obtain ⟨rfl, rfl⟩ := hq
  have hP : va_P D vwCl (lwW o fo q h a0 a1 a2 a3 a4 a5 g b0 b1 mo z1 z2 z3 z4 z5 z6 z7 z8 z9 cI cL fi la B G pr (nI N) hs cs mf ml M td lf laid piled prs 0) H := hP
  have hD : va_D (fun q : Nat => s.heap.size ≤ q) (lwW o fo q h a0 a1 a2 a3 a4 a5 g b0 b1 mo z1 z2 z3 z4 z5 z6 z7 z8 z9 cI cL fi la B G pr (nI N) hs cs mf ml M td lf laid piled prs 0) := hD
  refine W.eq (g2 := F0 m 1245 ls [.int (laid + piled - mAbove hs 0 (N - 1 + 1 - 0) 0), .int (G.2.2.2 - gAbove G.1 0 (N - 1 + 1 - 0) 0)]) rfl ?_
  refine lv_icmp_eq (tgt := 1291) hx hb dL_law_1245 (by decide) (fun _ => ?_) (fun c9 => absurd (by rw [hg, st_rest I]) c9)
  refine W.widen (k := n + 6) (n := sl + 36) (by omega) (by omega) ?_
  exact K _ H locs ls ⟨_, _, _, _, _, _, _, _, _, _, _, _, _, _, _, _, _, _, _, rfl, rfl, I, hg, hpr⟩ hP hD hS (lv_sub hl [0, 1, 2, 3, 4] rfl)
