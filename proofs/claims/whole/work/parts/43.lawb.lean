/-! the law, case by case -/
set_option maxHeartbeats 4000000 in
set_option maxRecDepth 100000 in
theorem law_layOut {p : Program} {l : Launch} {ev : Env} {s : State} {m : MethodId} {b L : Nat} {xs : Nat → Int32} {below : List Frame} {meth : Method} {cd : Code} {Q : State → Prop} {o q h a0 a1 a2 a3 a4 a5 g b0 b1 mo z1 z2 z3 z4 z5 z6 z7 z8 z9 : Nat} {D : va_G} {cI cL : ClassId} {i n sl : Nat} (C : LC p l s m meth cd b L xs D cI cL) (hi : i + 4 ≤ L) (hn : n + 6 ≤ 600000) (hsl : sl + 36 ≤ 7000000) (K : LK p l ev s m b below meth cd Q o q h a0 a1 a2 a3 a4 a5 g b0 b1 mo z1 z2 z3 z4 z5 z6 z7 z8 z9 D cI cL i 1291 (n + 6) (sl + 36)) : LK p l ev s m b below meth cd Q o q h a0 a1 a2 a3 a4 a5 g b0 b1 mo z1 z2 z3 z4 z5 z6 z7 z8 z9 D cI cL i 144 n sl := by
  obtain ⟨hx, hb, hml, hown, hts, hX, hbl, hK, hE, hfl, hL⟩ := C
  have hA : ∀ q : Nat, s.heap.size ≤ q → (fun q : Nat => s.heap.size ≤ q) q := fun _ h => h
  have hbA : ¬ (fun q : Nat => s.heap.size ≤ q) b := Nat.not_le.mpr hbl
  rintro w H locs ls ⟨fo, fi, la, B, G, pr, N, hs, cs, mf, ml, M, td, lf, laid, piled, prs, thr, col, rfl, rfl, I, hg, hpr⟩ hP hD hS hl
  have hN1 := I.1
  have hN2 := I.2.1
  have hNN : G.2.2.1 = nI N := I.2.2.2.2.2.2.2.2
  have hT := I.2.2.2.1
  have hN5 : N < 65 := by omega
  obtain ⟨x1, hx1⟩ : ∃ z, z = xs (nI (i + 1)).toNatClampNeg := ⟨_, rfl⟩
  obtain ⟨x2, hx2⟩ : ∃ z, z = xs (nI (i + 2)).toNatClampNeg := ⟨_, rfl⟩
  refine lv_aload_n hx hb dL_law_144 rfl (lv_at hl 3 rfl) ?_
  refine lv_aload_n hx hb dL_law_145 rfl (lv_at hl 4 rfl) ?_
  refine lv_iload hx hb dL_law_146 (lv_at hl 0 rfl) ?_
  refine lv_iconst (v := 1) hx hb dL_law_148 (by decide) ?_
  refine lv_iadd hx hb dL_law_149 ?_
  refine pq_top (nI (i + 1)) (nI_1 _) ?_
  refine va_sld hx hb hX hbl hbA hS (vp_in_nI (by omega) (by omega)) dL_law_150 ?_
  rw [← hx1]
  refine lv_aload_n hx hb dL_law_151 rfl (lv_at hl 4 rfl) ?_
  refine lv_iload hx hb dL_law_152 (lv_at hl 0 rfl) ?_
  refine lv_iconst (v := 2) hx hb dL_law_154 (by decide) ?_
  refine lv_iadd hx hb dL_law_155 ?_
  refine pq_top (nI (i + 2)) (nI_add _ 2) ?_
  refine va_sld hx hb hX hbl hbA hS (vp_in_nI (by omega) (by omega)) dL_law_156 ?_
  rw [← hx2]
  refine lv_aload_n hx hb dL_law_157 rfl (lv_at hl 1 rfl) ?_
  refine pq_callSW (wr := mdW mo z1 z2 z3 z4 z5 z6 z7 z8 z9 cI (nI N) hs cs mf ml M td lf laid piled prs thr) (own := RL) (nL := 9) [0, 1, 2, 3, 4, 5, 6, 7, 8, 9, 10, 11] [12, 13, 14, 15, 16, 17, 18, 19, 20, 21] [.ref q, .int x1, .int x2, .ref o] (mL_layOut l D cI cL o fo q h a0 a1 a2 a3 a4 a5 g b0 b1 fi la B G pr N hfl hNN hN1 hN2 x1 x2) ⟨hx, hb, hml, hown, hts⟩ (vx_cwSW 4 hts gL_law_L_layOut rfl rfl rfl (by decide +kernel) ⟨Nat.le_of_ble_eq_true rfl, Nat.le_of_ble_eq_true rfl⟩) pq_blL (hE.call hD hS hA [0, 1, 2, 3, 4, 5, 6, 7, 8, 9, 10, 11] rfl) hK hP hD hS hA rfl (by decide) rfl (by decide) (by decide) rfl hl.1 rfl (Nat.le_of_ble_eq_true rfl) dL_law_158 ⟨by show n + 2 ≤ 601024; omega, by show sl + 12 ≤ 7293034; omega⟩ (fun v w1 H locs hq hP hD hS hz => ?_)
  rcases hq with ⟨r, wc, hpost, rfl, rfl⟩ | ⟨hne, rfl, rfl⟩
  · obtain ⟨hv, rfl, hc0⟩ := hpost
    have hr := vi_eq hv
    obtain ⟨N2, I2, hN3⟩ := st_new hc0 fi la B G.1 G.2.1 (x1 * x2) (mf, ml, M) hs cs
    have hP : va_P D vwCl (lwW o (vp_updL fo 0 r.toInt64) q h a0 a1 a2 a3 a4 a5 g b0 b1 mo z1 z2 z3 z4 z5 z6 z7 z8 z9 cI cL ((sIter (upd fi 1 0, upd la 1 (x1 - 1)) 63).1) ((sIter (upd fi 1 0, upd la 1 (x1 - 1)) 63).2) (bNew (sIter (upd fi 1 0, upd la 1 (x1 - 1)) 63) x2 B) (gFillH x1 x2 G.1 64, gFillC G.2.1 64, x1, x1 * x2) 0 (nI N) hs cs mf ml M td lf laid piled prs thr) H := hP.sub [10, 11, 12, 13, 14, 15, 16, 17, 18, 19, 20, 21, 0, 1, 2, 3, 4, 5, 6, 7, 8, 9] rfl
    have hD : va_D (fun q : Nat => s.heap.size ≤ q) (lwW o (vp_updL fo 0 r.toInt64) q h a0 a1 a2 a3 a4 a5 g b0 b1 mo z1 z2 z3 z4 z5 z6 z7 z8 z9 cI cL ((sIter (upd fi 1 0, upd la 1 (x1 - 1)) 63).1) ((sIter (upd fi 1 0, upd la 1 (x1 - 1)) 63).2) (bNew (sIter (upd fi 1 0, upd la 1 (x1 - 1)) 63) x2 B) (gFillH x1 x2 G.1 64, gFillC G.2.1 64, x1, x1 * x2) 0 (nI N) hs cs mf ml M td lf laid piled prs thr) := hD.sub [10, 11, 12, 13, 14, 15, 16, 17, 18, 19, 20, 21, 0, 1, 2, 3, 4, 5, 6, 7, 8, 9] (by decide) rfl
    refine lv_istore (lv' := [(5, .int 0), (4, .int (nI i)), (3, .ref o), (2, .ref mo), (1, .ref q), (0, .ref b)]) hx hb dL_law_161 hl (by decide) rfl (fun ls hl => ?_)
    refine lv_aload_n hx hb dL_law_163 rfl (lv_at hl 3 rfl) ?_
    refine lv_aload_n hx hb dL_law_164 rfl (lv_at hl 5 rfl) ?_
    refine lv_iload hx hb dL_law_165 (lv_at hl 1 rfl) ?_
    refine lv_iconst (v := 1) hx hb dL_law_167 (by decide) ?_
    refine lv_iadd hx hb dL_law_168 ?_
    refine pq_top (nI (i + 1)) (nI_1 _) ?_
    refine va_sld hx hb hX hbl hbA hS (vp_in_nI (by omega) (by omega)) dL_law_169 ?_
    rw [← hx1]
    refine lv_aload_n hx hb dL_law_170 rfl (lv_at hl 5 rfl) ?_
    refine lv_iload hx hb dL_law_171 (lv_at hl 1 rfl) ?_
    refine lv_iconst (v := 2) hx hb dL_law_173 (by decide) ?_
    refine lv_iadd hx hb dL_law_174 ?_
    refine pq_top (nI (i + 2)) (nI_add _ 2) ?_
    refine va_sld hx hb hX hbl hbA hS (vp_in_nI (by omega) (by omega)) dL_law_175 ?_
    rw [← hx2]
    refine pq_callV (rest := []) (wr := (o, .inl (cL, 1, .inr (.inl (vp_updL fo 0 r.toInt64)))) :: ppW q h a0 a1 a2 a3 a4 a5 g b0 b1 cI ((sIter (upd fi 1 0, upd la 1 (x1 - 1)) 63).1) ((sIter (upd fi 1 0, upd la 1 (x1 - 1)) 63).2) (bNew (sIter (upd fi 1 0, upd la 1 (x1 - 1)) 63) x2 B) (gFillH x1 x2 G.1 64, gFillC G.2.1 64, x1, x1 * x2) 0) (own := RL) (nL := 9) (q0 := 12) (ci := 3) [12, 13, 14, 15, 16, 17, 18, 19, 20, 21] [0, 1, 2, 3, 4, 5, 6, 7, 8, 9, 10, 11] [.int x1, .int x2] (mX3_layOut l D cI mo z1 z2 z3 z4 z5 z6 z7 z8 z9 (nI N) hs cs mf ml M td lf laid piled prs thr x1 x2) ⟨hx, hb, hml, hown, hts⟩ (cwV 2 hts gL_law_X3_layOut rfl rfl rfl (by decide +kernel) ⟨Nat.le_of_ble_eq_true rfl, Nat.le_of_ble_eq_true rfl⟩) pq_bl0 (fun _ _ _ => trivial) (hK.sub [0] rfl) hP hD hS hA rfl (by decide) rfl (by decide) (by decide) rfl rfl rfl rfl hl.1 rfl (Nat.le_of_ble_eq_true rfl) dL_law_176 ⟨by show n + 2 + 0 ≤ 601024; omega, by show sl + 12 + 0 ≤ 7293034; omega⟩ (fun v w1 H locs hq hP hD hS hz => ?_)
    rcases hq with ⟨hm, rfl, rfl⟩ | ⟨rfl, rfl, hm0⟩
    · exact (hm ((rfl).symm.trans hc0)).elim
    · skip
      have hP : va_P D vwCl (lwW o (vp_updL fo 0 r.toInt64) q h a0 a1 a2 a3 a4 a5 g b0 b1 mo z1 z2 z3 z4 z5 z6 z7 z8 z9 cI cL ((sIter (upd fi 1 0, upd la 1 (x1 - 1)) 63).1) ((sIter (upd fi 1 0, upd la 1 (x1 - 1)) 63).2) (bNew (sIter (upd fi 1 0, upd la 1 (x1 - 1)) 63) x2 B) (gFillH x1 x2 G.1 64, gFillC G.2.1 64, x1, x1 * x2) 0 x1 (gFillH x1 x2 hs 64) (gFillC cs 64) ((mIter x1 x2 (mf, ml, M) 127).1) ((mIter x1 x2 (mf, ml, M) 127).2.1) (mNew (mIter x1 x2 (mf, ml, M) 127)) td lf (x1 * x2) 0 0 0) H := hP
      have hD : va_D (fun q : Nat => s.heap.size ≤ q) (lwW o (vp_updL fo 0 r.toInt64) q h a0 a1 a2 a3 a4 a5 g b0 b1 mo z1 z2 z3 z4 z5 z6 z7 z8 z9 cI cL ((sIter (upd fi 1 0, upd la 1 (x1 - 1)) 63).1) ((sIter (upd fi 1 0, upd la 1 (x1 - 1)) 63).2) (bNew (sIter (upd fi 1 0, upd la 1 (x1 - 1)) 63) x2 B) (gFillH x1 x2 G.1 64, gFillC G.2.1 64, x1, x1 * x2) 0 x1 (gFillH x1 x2 hs 64) (gFillC cs 64) ((mIter x1 x2 (mf, ml, M) 127).1) ((mIter x1 x2 (mf, ml, M) 127).2.1) (mNew (mIter x1 x2 (mf, ml, M) 127)) td lf (x1 * x2) 0 0 0) := hD
      refine W.eq (g2 := F0 m 179 ls [.int (x1 * x2)]) rfl ?_
      refine lv_istore (lv' := [(6, .int (x1 * x2)), (5, .int 0), (4, .int (nI i)), (3, .ref o), (2, .ref mo), (1, .ref q), (0, .ref b)]) hx hb dL_law_179 hl (by decide) rfl (fun ls hl => ?_)
      refine lv_aload_n hx hb dL_law_181 rfl (lv_at hl 4 rfl) ?_
      refine pq_callV (rest := []) (wr := (o, .inl (cL, 1, .inr (.inl (vp_updL fo 0 r.toInt64)))) :: ppW q h a0 a1 a2 a3 a4 a5 g b0 b1 cI ((sIter (upd fi 1 0, upd la 1 (x1 - 1)) 63).1) ((sIter (upd fi 1 0, upd la 1 (x1 - 1)) 63).2) (bNew (sIter (upd fi 1 0, upd la 1 (x1 - 1)) 63) x2 B) (gFillH x1 x2 G.1 64, gFillC G.2.1 64, x1, x1 * x2) 0) (own := RL) (nL := 9) (q0 := 12) (ci := 3) [12, 13, 14, 15, 16, 17, 18, 19, 20, 21] [0, 1, 2, 3, 4, 5, 6, 7, 8, 9, 10, 11] [] (mX3_thrown l D cI mo z1 z2 z3 z4 z5 z6 z7 z8 z9 x1 (gFillH x1 x2 hs 64) (gFillC cs 64) ((mIter x1 x2 (mf, ml, M) 127).1) ((mIter x1 x2 (mf, ml, M) 127).2.1) (mNew (mIter x1 x2 (mf, ml, M) 127)) td lf (x1 * x2) 0 0 0) ⟨hx, hb, hml, hown, hts⟩ (cwV 0 hts gL_law_X3_thrown rfl rfl rfl (by decide +kernel) ⟨Nat.le_of_ble_eq_true rfl, Nat.le_of_ble_eq_true rfl⟩) pq_bl0 (fun _ _ _ => trivial) (hK.sub [0] rfl) hP hD hS hA rfl (by decide) rfl (by decide) (by decide) rfl rfl rfl rfl hl.1 rfl (Nat.le_of_ble_eq_true rfl) dL_law_182 ⟨by show n + 2 + 0 + 0 ≤ 601024; omega, by show sl + 12 + 0 + 0 ≤ 7293034; omega⟩ (fun v w1 H locs hq hP hD hS hz => ?_)
      obtain ⟨rfl, rfl⟩ := hq
      have hP : va_P D vwCl (lwW o (vp_updL fo 0 r.toInt64) q h a0 a1 a2 a3 a4 a5 g b0 b1 mo z1 z2 z3 z4 z5 z6 z7 z8 z9 cI cL ((sIter (upd fi 1 0, upd la 1 (x1 - 1)) 63).1) ((sIter (upd fi 1 0, upd la 1 (x1 - 1)) 63).2) (bNew (sIter (upd fi 1 0, upd la 1 (x1 - 1)) 63) x2 B) (gFillH x1 x2 G.1 64, gFillC G.2.1 64, x1, x1 * x2) 0 x1 (gFillH x1 x2 hs 64) (gFillC cs 64) ((mIter x1 x2 (mf, ml, M) 127).1) ((mIter x1 x2 (mf, ml, M) 127).2.1) (mNew (mIter x1 x2 (mf, ml, M) 127)) td lf (x1 * x2) 0 0 0) H := hP
      have hD : va_D (fun q : Nat => s.heap.size ≤ q) (lwW o (vp_updL fo 0 r.toInt64) q h a0 a1 a2 a3 a4 a5 g b0 b1 mo z1 z2 z3 z4 z5 z6 z7 z8 z9 cI cL ((sIter (upd fi 1 0, upd la 1 (x1 - 1)) 63).1) ((sIter (upd fi 1 0, upd la 1 (x1 - 1)) 63).2) (bNew (sIter (upd fi 1 0, upd la 1 (x1 - 1)) 63) x2 B) (gFillH x1 x2 G.1 64, gFillC G.2.1 64, x1, x1 * x2) 0 x1 (gFillH x1 x2 hs 64) (gFillC cs 64) ((mIter x1 x2 (mf, ml, M) 127).1) ((mIter x1 x2 (mf, ml, M) 127).2.1) (mNew (mIter x1 x2 (mf, ml, M) 127)) td lf (x1 * x2) 0 0 0) := hD
      refine W.eq (g2 := F0 m 185 ls [.int 0]) rfl ?_
      refine lv_iload hx hb dL_law_185 (lv_at hl 1 rfl) ?_
      refine lv_icmp_eq (tgt := 192) hx hb dL_law_187 (by decide) (fun _ => ?_) (fun c9 => absurd rfl c9)
      refine lv_iload hx hb dL_law_192 (lv_at hl 1 rfl) ?_
      refine lv_if_ne (tgt := 209) hx hb dL_law_194 (by decide) (fun c9 => absurd rfl c9) (fun _ => ?_)
      refine lv_aload_n hx hb dL_law_197 rfl (lv_at hl 3 rfl) ?_
      refine lv_iconst (v := 0) hx hb dL_law_198 (by decide) ?_
      refine pq_lald hx hb hK hP 0 1 rfl rfl dL_law_199 ?_
      have hans : r = x1 * x2 := hr
      have hpr2 : (0 : Int32) = 0 := rfl
      have hg2 : x1 * x2 = x1 * x2 + 0 := (Int32.add_zero _).symm
      rw [updL_0, hans]
      refine lv_iload hx hb dL_law_200 (lv_at hl 0 rfl) ?_
      refine lv_i2l hx hb dL_law_202 rfl ?_
      refine W.lcmp hx hb dL_law_203 ?_
      rw [lg_cmp_s]
      refine lv_if_eq (tgt := 209) hx hb dL_law_204 (by decide) (fun _ => ?_) (fun c9 => absurd rfl c9)
      refine lv_goto (tgt := 1291) hx hb dL_law_209 (by decide) ?_
      refine W.widen (k := n + 6) (n := sl + 36) (by omega) (by omega) ?_
      exact K _ H locs ls ⟨_, _, _, _, _, _, _, _, _, _, _, _, _, _, _, _, _, _, _, rfl, hN3, I2, hg2, hpr2⟩ hP hD hS (lv_sub hl [2, 3, 4, 5, 6] rfl)
  · skip
    have hP : va_P D vwCl (lwW o fo q h a0 a1 a2 a3 a4 a5 g b0 b1 mo z1 z2 z3 z4 z5 z6 z7 z8 z9 cI cL fi la B G pr (nI N) hs cs mf ml M td lf laid piled prs thr) H := hP.sub [10, 11, 12, 13, 14, 15, 16, 17, 18, 19, 20, 21, 0, 1, 2, 3, 4, 5, 6, 7, 8, 9] rfl
    have hD : va_D (fun q : Nat => s.heap.size ≤ q) (lwW o fo q h a0 a1 a2 a3 a4 a5 g b0 b1 mo z1 z2 z3 z4 z5 z6 z7 z8 z9 cI cL fi la B G pr (nI N) hs cs mf ml M td lf laid piled prs thr) := hD.sub [10, 11, 12, 13, 14, 15, 16, 17, 18, 19, 20, 21, 0, 1, 2, 3, 4, 5, 6, 7, 8, 9] (by decide) rfl
    refine lv_istore (lv' := [(5, .int (cLay x1 x2)), (4, .int (nI i)), (3, .ref o), (2, .ref mo), (1, .ref q), (0, .ref b)]) hx hb dL_law_161 hl (by decide) rfl (fun ls hl => ?_)
    refine lv_aload_n hx hb dL_law_163 rfl (lv_at hl 3 rfl) ?_
    refine lv_aload_n hx hb dL_law_164 rfl (lv_at hl 5 rfl) ?_
    refine lv_iload hx hb dL_law_165 (lv_at hl 1 rfl) ?_
    refine lv_iconst (v := 1) hx hb dL_law_167 (by decide) ?_
    refine lv_iadd hx hb dL_law_168 ?_
    refine pq_top (nI (i + 1)) (nI_1 _) ?_
    refine va_sld hx hb hX hbl hbA hS (vp_in_nI (by omega) (by omega)) dL_law_169 ?_
    rw [← hx1]
    refine lv_aload_n hx hb dL_law_170 rfl (lv_at hl 5 rfl) ?_
    refine lv_iload hx hb dL_law_171 (lv_at hl 1 rfl) ?_
    refine lv_iconst (v := 2) hx hb dL_law_173 (by decide) ?_
    refine lv_iadd hx hb dL_law_174 ?_
    refine pq_top (nI (i + 2)) (nI_add _ 2) ?_
    refine va_sld hx hb hX hbl hbA hS (vp_in_nI (by omega) (by omega)) dL_law_175 ?_
    rw [← hx2]
    refine pq_callV (rest := []) (wr := (o, .inl (cL, 1, .inr (.inl fo))) :: ppW q h a0 a1 a2 a3 a4 a5 g b0 b1 cI fi la B G pr) (own := RL) (nL := 9) (q0 := 12) (ci := 3) [12, 13, 14, 15, 16, 17, 18, 19, 20, 21] [0, 1, 2, 3, 4, 5, 6, 7, 8, 9, 10, 11] [.int x1, .int x2] (mX3_layOut l D cI mo z1 z2 z3 z4 z5 z6 z7 z8 z9 (nI N) hs cs mf ml M td lf laid piled prs thr x1 x2) ⟨hx, hb, hml, hown, hts⟩ (cwV 2 hts gL_law_X3_layOut rfl rfl rfl (by decide +kernel) ⟨Nat.le_of_ble_eq_true rfl, Nat.le_of_ble_eq_true rfl⟩) pq_bl0 (fun _ _ _ => trivial) (hK.sub [0] rfl) hP hD hS hA rfl (by decide) rfl (by decide) (by decide) rfl rfl rfl rfl hl.1 rfl (Nat.le_of_ble_eq_true rfl) dL_law_176 ⟨by show n + 2 + 0 ≤ 601024; omega, by show sl + 12 + 0 ≤ 7293034; omega⟩ (fun v w1 H locs hq hP hD hS hz => ?_)
    rcases hq with ⟨hm, rfl, rfl⟩ | ⟨rfl, rfl, hm0⟩
    · skip
      have hP : va_P D vwCl (lwW o fo q h a0 a1 a2 a3 a4 a5 g b0 b1 mo z1 z2 z3 z4 z5 z6 z7 z8 z9 cI cL fi la B G pr (nI N) hs cs mf ml M td lf laid piled prs (cLay x1 x2)) H := hP
      have hD : va_D (fun q : Nat => s.heap.size ≤ q) (lwW o fo q h a0 a1 a2 a3 a4 a5 g b0 b1 mo z1 z2 z3 z4 z5 z6 z7 z8 z9 cI cL fi la B G pr (nI N) hs cs mf ml M td lf laid piled prs (cLay x1 x2)) := hD
      refine W.eq (g2 := F0 m 179 ls [.int 0]) rfl ?_
      refine lv_istore (lv' := [(6, .int 0), (5, .int (cLay x1 x2)), (4, .int (nI i)), (3, .ref o), (2, .ref mo), (1, .ref q), (0, .ref b)]) hx hb dL_law_179 hl (by decide) rfl (fun ls hl => ?_)
      refine lv_aload_n hx hb dL_law_181 rfl (lv_at hl 4 rfl) ?_
      refine pq_callV (rest := []) (wr := (o, .inl (cL, 1, .inr (.inl fo))) :: ppW q h a0 a1 a2 a3 a4 a5 g b0 b1 cI fi la B G pr) (own := RL) (nL := 9) (q0 := 12) (ci := 3) [12, 13, 14, 15, 16, 17, 18, 19, 20, 21] [0, 1, 2, 3, 4, 5, 6, 7, 8, 9, 10, 11] [] (mX3_thrown l D cI mo z1 z2 z3 z4 z5 z6 z7 z8 z9 (nI N) hs cs mf ml M td lf laid piled prs (cLay x1 x2)) ⟨hx, hb, hml, hown, hts⟩ (cwV 0 hts gL_law_X3_thrown rfl rfl rfl (by decide +kernel) ⟨Nat.le_of_ble_eq_true rfl, Nat.le_of_ble_eq_true rfl⟩) pq_bl0 (fun _ _ _ => trivial) (hK.sub [0] rfl) hP hD hS hA rfl (by decide) rfl (by decide) (by decide) rfl rfl rfl rfl hl.1 rfl (Nat.le_of_ble_eq_true rfl) dL_law_182 ⟨by show n + 2 + 0 + 0 ≤ 601024; omega, by show sl + 12 + 0 + 0 ≤ 7293034; omega⟩ (fun v w1 H locs hq hP hD hS hz => ?_)
      obtain ⟨rfl, rfl⟩ := hq
      have hP : va_P D vwCl (lwW o fo q h a0 a1 a2 a3 a4 a5 g b0 b1 mo z1 z2 z3 z4 z5 z6 z7 z8 z9 cI cL fi la B G pr (nI N) hs cs mf ml M td lf laid piled prs (cLay x1 x2)) H := hP
      have hD : va_D (fun q : Nat => s.heap.size ≤ q) (lwW o fo q h a0 a1 a2 a3 a4 a5 g b0 b1 mo z1 z2 z3 z4 z5 z6 z7 z8 z9 cI cL fi la B G pr (nI N) hs cs mf ml M td lf laid piled prs (cLay x1 x2)) := hD
      refine W.eq (g2 := F0 m 185 ls [.int (cLay x1 x2)]) rfl ?_
      refine lv_iload hx hb dL_law_185 (lv_at hl 1 rfl) ?_
      refine lv_icmp_eq (tgt := 192) hx hb dL_law_187 (by decide) (fun _ => ?_) (fun c9 => absurd ((rfl).symm) c9)
      refine lv_iload hx hb dL_law_192 (lv_at hl 1 rfl) ?_
      refine lv_if_ne (tgt := 209) hx hb dL_law_194 (by decide) (fun _ => ?_) (fun c9 => absurd c9 hne)
      refine lv_goto (tgt := 1291) hx hb dL_law_209 (by decide) ?_
      refine W.widen (k := n + 6) (n := sl + 36) (by omega) (by omega) ?_
      exact K _ H locs ls ⟨_, _, _, _, _, _, _, _, _, _, _, _, _, _, _, _, _, _, _, rfl, rfl, I, hg, hpr⟩ hP hD hS (lv_sub hl [2, 3, 4, 5, 6] rfl)
    · exact (hne ((rfl).trans hm0)).elim

set_option maxHeartbeats 4000000 in
set_option maxRecDepth 100000 in
theorem law_pile {p : Program} {l : Launch} {ev : Env} {s : State} {m : MethodId} {b L : Nat} {xs : Nat → Int32} {below : List Frame} {meth : Method} {cd : Code} {Q : State → Prop} {o q h a0 a1 a2 a3 a4 a5 g b0 b1 mo z1 z2 z3 z4 z5 z6 z7 z8 z9 : Nat} {D : va_G} {cI cL : ClassId} {i n sl : Nat} (C : LC p l s m meth cd b L xs D cI cL) (hi : i + 4 ≤ L) (hn : n + 6 ≤ 600000) (hsl : sl + 36 ≤ 7000000) (K : LK p l ev s m b below meth cd Q o q h a0 a1 a2 a3 a4 a5 g b0 b1 mo z1 z2 z3 z4 z5 z6 z7 z8 z9 D cI cL i 1291 (n + 6) (sl + 36)) : LK p l ev s m b below meth cd Q o q h a0 a1 a2 a3 a4 a5 g b0 b1 mo z1 z2 z3 z4 z5 z6 z7 z8 z9 D cI cL i 212 n sl := by
  obtain ⟨hx, hb, hml, hown, hts, hX, hbl, hK, hE, hfl, hL⟩ := C
  have hA : ∀ q : Nat, s.heap.size ≤ q → (fun q : Nat => s.heap.size ≤ q) q := fun _ h => h
  have hbA : ¬ (fun q : Nat => s.heap.size ≤ q) b := Nat.not_le.mpr hbl
  rintro w H locs ls ⟨fo, fi, la, B, G, pr, N, hs, cs, mf, ml, M, td, lf, laid, piled, prs, thr, col, rfl, rfl, I, hg, hpr⟩ hP hD hS hl
  have hN1 := I.1
  have hN2 := I.2.1
  have hNN : G.2.2.1 = nI N := I.2.2.2.2.2.2.2.2
  have hT := I.2.2.2.1
  have hN5 : N < 65 := by omega
  obtain ⟨x1, hx1⟩ : ∃ z, z = xs (nI (i + 1)).toNatClampNeg := ⟨_, rfl⟩
  obtain ⟨x2, hx2⟩ : ∃ z, z = xs (nI (i + 2)).toNatClampNeg := ⟨_, rfl⟩
  refine lv_aload_n hx hb dL_law_212 rfl (lv_at hl 3 rfl) ?_
  refine lv_aload_n hx hb dL_law_213 rfl (lv_at hl 4 rfl) ?_
  refine lv_iload hx hb dL_law_214 (lv_at hl 0 rfl) ?_
  refine lv_iconst (v := 1) hx hb dL_law_216 (by decide) ?_
  refine lv_iadd hx hb dL_law_217 ?_
  refine pq_top (nI (i + 1)) (nI_1 _) ?_
  refine va_sld hx hb hX hbl hbA hS (vp_in_nI (by omega) (by omega)) dL_law_218 ?_
  rw [← hx1]
  refine lv_aload_n hx hb dL_law_219 rfl (lv_at hl 4 rfl) ?_
  refine lv_iload hx hb dL_law_220 (lv_at hl 0 rfl) ?_
  refine lv_iconst (v := 2) hx hb dL_law_222 (by decide) ?_
  refine lv_iadd hx hb dL_law_223 ?_
  refine pq_top (nI (i + 2)) (nI_add _ 2) ?_
  refine va_sld hx hb hX hbl hbA hS (vp_in_nI (by omega) (by omega)) dL_law_224 ?_
  rw [← hx2]
  refine lv_aload_n hx hb dL_law_225 rfl (lv_at hl 1 rfl) ?_
  refine pq_callSW (wr := mdW mo z1 z2 z3 z4 z5 z6 z7 z8 z9 cI (nI N) hs cs mf ml M td lf laid piled prs thr) (own := RL) (nL := 9) [0, 1, 2, 3, 4, 5, 6, 7, 8, 9, 10, 11] [12, 13, 14, 15, 16, 17, 18, 19, 20, 21] [.ref q, .int x1, .int x2, .ref o] (mL_pile l D cI cL o fo q h a0 a1 a2 a3 a4 a5 g b0 b1 fi la B G pr N hfl hNN hN1 hN2 x1 x2) ⟨hx, hb, hml, hown, hts⟩ (vx_cwSW 4 hts gL_law_L_pile rfl rfl rfl (by decide +kernel) ⟨Nat.le_of_ble_eq_true rfl, Nat.le_of_ble_eq_true rfl⟩) pq_blL (hE.call hD hS hA [0, 1, 2, 3, 4, 5, 6, 7, 8, 9, 10, 11] rfl) hK hP hD hS hA rfl (by decide) rfl (by decide) (by decide) rfl hl.1 rfl (Nat.le_of_ble_eq_true rfl) dL_law_226 ⟨by show n + 3 ≤ 601024; omega, by show sl + 18 ≤ 7293034; omega⟩ (fun v w1 H locs hq hP hD hS hz => ?_)
  rcases hq with ⟨r, wc, hpost, rfl, rfl⟩ | ⟨hne, rfl, rfl⟩
  · obtain ⟨k, hxk, hk, hv, rfl, hc0⟩ := hpost
    have hr := vi_eq hv
    have hP : va_P D vwCl (lwW o (vp_updL fo 0 r.toInt64) q h a0 a1 a2 a3 a4 a5 g b0 b1 mo z1 z2 z3 z4 z5 z6 z7 z8 z9 cI cL fi la (bRaiseFrom fi la (nI k) (G.1 k + x2) 7 (bBegin B) 1) (upd G.1 k (G.1 k + x2), upd G.2.1 k (-1), G.2.2.1, G.2.2.2 + x2) pr (nI N) hs cs mf ml M td lf laid piled prs thr) H := hP.sub [10, 11, 12, 13, 14, 15, 16, 17, 18, 19, 20, 21, 0, 1, 2, 3, 4, 5, 6, 7, 8, 9] rfl
    have hD : va_D (fun q : Nat => s.heap.size ≤ q) (lwW o (vp_updL fo 0 r.toInt64) q h a0 a1 a2 a3 a4 a5 g b0 b1 mo z1 z2 z3 z4 z5 z6 z7 z8 z9 cI cL fi la (bRaiseFrom fi la (nI k) (G.1 k + x2) 7 (bBegin B) 1) (upd G.1 k (G.1 k + x2), upd G.2.1 k (-1), G.2.2.1, G.2.2.2 + x2) pr (nI N) hs cs mf ml M td lf laid piled prs thr) := hD.sub [10, 11, 12, 13, 14, 15, 16, 17, 18, 19, 20, 21, 0, 1, 2, 3, 4, 5, 6, 7, 8, 9] (by decide) rfl
    refine lv_istore (lv' := [(5, .int 0), (4, .int (nI i)), (3, .ref o), (2, .ref mo), (1, .ref q), (0, .ref b)]) hx hb dL_law_229 hl (by decide) rfl (fun ls hl => ?_)
    refine lv_aload_n hx hb dL_law_231 rfl (lv_at hl 3 rfl) ?_
    refine lv_aload_n hx hb dL_law_232 rfl (lv_at hl 5 rfl) ?_
    refine lv_iload hx hb dL_law_233 (lv_at hl 1 rfl) ?_
    refine lv_iconst (v := 1) hx hb dL_law_235 (by decide) ?_
    refine lv_iadd hx hb dL_law_236 ?_
    refine pq_top (nI (i + 1)) (nI_1 _) ?_
    refine va_sld hx hb hX hbl hbA hS (vp_in_nI (by omega) (by omega)) dL_law_237 ?_
    rw [← hx1]
    refine lv_aload_n hx hb dL_law_238 rfl (lv_at hl 5 rfl) ?_
    refine lv_iload hx hb dL_law_239 (lv_at hl 1 rfl) ?_
    refine lv_iconst (v := 2) hx hb dL_law_241 (by decide) ?_
    refine lv_iadd hx hb dL_law_242 ?_
    refine pq_top (nI (i + 2)) (nI_add _ 2) ?_
    refine va_sld hx hb hX hbl hbA hS (vp_in_nI (by omega) (by omega)) dL_law_243 ?_
    rw [← hx2]
    refine pq_callV (rest := []) (wr := (o, .inl (cL, 1, .inr (.inl (vp_updL fo 0 r.toInt64)))) :: ppW q h a0 a1 a2 a3 a4 a5 g b0 b1 cI fi la (bRaiseFrom fi la (nI k) (G.1 k + x2) 7 (bBegin B) 1) (upd G.1 k (G.1 k + x2), upd G.2.1 k (-1), G.2.2.1, G.2.2.2 + x2) pr) (own := RL) (nL := 9) (q0 := 12) (ci := 3) [12, 13, 14, 15, 16, 17, 18, 19, 20, 21] [0, 1, 2, 3, 4, 5, 6, 7, 8, 9, 10, 11] [.int x1, .int x2] (mX3_pile l D cI mo z1 z2 z3 z4 z5 z6 z7 z8 z9 (nI N) hs cs mf ml M td lf laid piled prs thr x1 x2 N rfl hN1 hN2 (m_hsp hN5 hT) (m_hch hN5 hT) (m_hrt hN1 hN5 hT)) ⟨hx, hb, hml, hown, hts⟩ (cwV 2 hts gL_law_X3_pile rfl rfl rfl (by decide +kernel) ⟨Nat.le_of_ble_eq_true rfl, Nat.le_of_ble_eq_true rfl⟩) pq_bl0 (fun _ _ _ => trivial) (hK.sub [0] rfl) hP hD hS hA rfl (by decide) rfl (by decide) (by decide) rfl rfl rfl rfl hl.1 rfl (Nat.le_of_ble_eq_true rfl) dL_law_244 ⟨by show n + 3 + 0 ≤ 601024; omega, by show sl + 18 + 0 ≤ 7293034; omega⟩ (fun v w1 H locs hq hP hD hS hz => ?_)
    rcases hq with ⟨hm, rfl, rfl⟩ | ⟨k2, hxk2, hk2, rfl, ⟨td2, rfl⟩, hm0⟩
    · exact (hm ((iv_cpile I x1 x2).symm.trans hc0)).elim
    · skip
      have hP : va_P D vwCl (lwW o (vp_updL fo 0 r.toInt64) q h a0 a1 a2 a3 a4 a5 g b0 b1 mo z1 z2 z3 z4 z5 z6 z7 z8 z9 cI cL fi la (bRaiseFrom fi la (nI k) (G.1 k + x2) 7 (bBegin B) 1) (upd G.1 k (G.1 k + x2), upd G.2.1 k (-1), G.2.2.1, G.2.2.2 + x2) pr (nI N) (upd hs k2 (hs k2 + x2)) (upd cs k2 (-1)) mf ml (mUps 7 (mAdd (mDown mf ml (nI k2) 7 (bVisit (bBegin M)) 1).1 (mDown mf ml (nI k2) 7 (bVisit (bBegin M)) 1).2 x2) (mDown mf ml (nI k2) 7 (bVisit (bBegin M)) 1).2) td2 1 laid (piled + x2) prs 0) H := hP
      have hD : va_D (fun q : Nat => s.heap.size ≤ q) (lwW o (vp_updL fo 0 r.toInt64) q h a0 a1 a2 a3 a4 a5 g b0 b1 mo z1 z2 z3 z4 z5 z6 z7 z8 z9 cI cL fi la (bRaiseFrom fi la (nI k) (G.1 k + x2) 7 (bBegin B) 1) (upd G.1 k (G.1 k + x2), upd G.2.1 k (-1), G.2.2.1, G.2.2.2 + x2) pr (nI N) (upd hs k2 (hs k2 + x2)) (upd cs k2 (-1)) mf ml (mUps 7 (mAdd (mDown mf ml (nI k2) 7 (bVisit (bBegin M)) 1).1 (mDown mf ml (nI k2) 7 (bVisit (bBegin M)) 1).2 x2) (mDown mf ml (nI k2) 7 (bVisit (bBegin M)) 1).2) td2 1 laid (piled + x2) prs 0) := hD
      refine W.eq (g2 := F0 m 247 ls [.int (hs k2 + x2)]) rfl ?_
      refine lv_istore (lv' := [(6, .int (hs k2 + x2)), (5, .int 0), (4, .int (nI i)), (3, .ref o), (2, .ref mo), (1, .ref q), (0, .ref b)]) hx hb dL_law_247 hl (by decide) rfl (fun ls hl => ?_)
      refine lv_aload_n hx hb dL_law_249 rfl (lv_at hl 4 rfl) ?_
      refine pq_callV (rest := []) (wr := (o, .inl (cL, 1, .inr (.inl (vp_updL fo 0 r.toInt64)))) :: ppW q h a0 a1 a2 a3 a4 a5 g b0 b1 cI fi la (bRaiseFrom fi la (nI k) (G.1 k + x2) 7 (bBegin B) 1) (upd G.1 k (G.1 k + x2), upd G.2.1 k (-1), G.2.2.1, G.2.2.2 + x2) pr) (own := RL) (nL := 9) (q0 := 12) (ci := 3) [12, 13, 14, 15, 16, 17, 18, 19, 20, 21] [0, 1, 2, 3, 4, 5, 6, 7, 8, 9, 10, 11] [] (mX3_thrown l D cI mo z1 z2 z3 z4 z5 z6 z7 z8 z9 (nI N) (upd hs k2 (hs k2 + x2)) (upd cs k2 (-1)) mf ml (mUps 7 (mAdd (mDown mf ml (nI k2) 7 (bVisit (bBegin M)) 1).1 (mDown mf ml (nI k2) 7 (bVisit (bBegin M)) 1).2 x2) (mDown mf ml (nI k2) 7 (bVisit (bBegin M)) 1).2) td2 1 laid (piled + x2) prs 0) ⟨hx, hb, hml, hown, hts⟩ (cwV 0 hts gL_law_X3_thrown rfl rfl rfl (by decide +kernel) ⟨Nat.le_of_ble_eq_true rfl, Nat.le_of_ble_eq_true rfl⟩) pq_bl0 (fun _ _ _ => trivial) (hK.sub [0] rfl) hP hD hS hA rfl (by decide) rfl (by decide) (by decide) rfl rfl rfl rfl hl.1 rfl (Nat.le_of_ble_eq_true rfl) dL_law_250 ⟨by show n + 3 + 0 + 0 ≤ 601024; omega, by show sl + 18 + 0 + 0 ≤ 7293034; omega⟩ (fun v w1 H locs hq hP hD hS hz => ?_)
      obtain ⟨rfl, rfl⟩ := hq
      have hP : va_P D vwCl (lwW o (vp_updL fo 0 r.toInt64) q h a0 a1 a2 a3 a4 a5 g b0 b1 mo z1 z2 z3 z4 z5 z6 z7 z8 z9 cI cL fi la (bRaiseFrom fi la (nI k) (G.1 k + x2) 7 (bBegin B) 1) (upd G.1 k (G.1 k + x2), upd G.2.1 k (-1), G.2.2.1, G.2.2.2 + x2) pr (nI N) (upd hs k2 (hs k2 + x2)) (upd cs k2 (-1)) mf ml (mUps 7 (mAdd (mDown mf ml (nI k2) 7 (bVisit (bBegin M)) 1).1 (mDown mf ml (nI k2) 7 (bVisit (bBegin M)) 1).2 x2) (mDown mf ml (nI k2) 7 (bVisit (bBegin M)) 1).2) td2 1 laid (piled + x2) prs 0) H := hP
      have hD : va_D (fun q : Nat => s.heap.size ≤ q) (lwW o (vp_updL fo 0 r.toInt64) q h a0 a1 a2 a3 a4 a5 g b0 b1 mo z1 z2 z3 z4 z5 z6 z7 z8 z9 cI cL fi la (bRaiseFrom fi la (nI k) (G.1 k + x2) 7 (bBegin B) 1) (upd G.1 k (G.1 k + x2), upd G.2.1 k (-1), G.2.2.1, G.2.2.2 + x2) pr (nI N) (upd hs k2 (hs k2 + x2)) (upd cs k2 (-1)) mf ml (mUps 7 (mAdd (mDown mf ml (nI k2) 7 (bVisit (bBegin M)) 1).1 (mDown mf ml (nI k2) 7 (bVisit (bBegin M)) 1).2 x2) (mDown mf ml (nI k2) 7 (bVisit (bBegin M)) 1).2) td2 1 laid (piled + x2) prs 0) := hD
      refine W.eq (g2 := F0 m 253 ls [.int 0]) rfl ?_
      refine lv_iload hx hb dL_law_253 (lv_at hl 1 rfl) ?_
      refine lv_icmp_eq (tgt := 260) hx hb dL_law_255 (by decide) (fun _ => ?_) (fun c9 => absurd rfl c9)
      refine lv_iload hx hb dL_law_260 (lv_at hl 1 rfl) ?_
      refine lv_if_ne (tgt := 277) hx hb dL_law_262 (by decide) (fun c9 => absurd rfl c9) (fun _ => ?_)
      refine lv_aload_n hx hb dL_law_265 rfl (lv_at hl 3 rfl) ?_
      refine lv_iconst (v := 0) hx hb dL_law_266 (by decide) ?_
      refine pq_lald hx hb hK hP 0 1 rfl rfl dL_law_267 ?_
      have hkk : k = k2 := nI_inj (by omega) (by omega) (hxk.symm.trans hxk2)
      subst hkk
      obtain ⟨I2, hans0⟩ := st_pile I hk (hxk ▸ hm0) (G.2.2.2 + x2)
      have hans := hr.trans hans0
      have hpr2 := hpr
      have hg2 : G.2.2.2 + x2 = laid + (piled + x2) := by rw [hg, Int32.add_assoc]
      rw [updL_0, hans]
      refine lv_iload hx hb dL_law_268 (lv_at hl 0 rfl) ?_
      refine lv_i2l hx hb dL_law_270 rfl ?_
      refine W.lcmp hx hb dL_law_271 ?_
      rw [lg_cmp_s]
      refine lv_if_eq (tgt := 277) hx hb dL_law_272 (by decide) (fun _ => ?_) (fun c9 => absurd rfl c9)
      refine lv_goto (tgt := 1291) hx hb dL_law_277 (by decide) ?_
      refine W.widen (k := n + 6) (n := sl + 36) (by omega) (by omega) ?_
      exact K _ H locs ls ⟨_, _, _, _, _, _, _, _, _, _, _, _, _, _, _, _, _, _, _, rfl, rfl, I2, hg2, hpr2⟩ hP hD hS (lv_sub hl [2, 3, 4, 5, 6] rfl)
  · skip
    have hP : va_P D vwCl (lwW o fo q h a0 a1 a2 a3 a4 a5 g b0 b1 mo z1 z2 z3 z4 z5 z6 z7 z8 z9 cI cL fi la B G pr (nI N) hs cs mf ml M td lf laid piled prs thr) H := hP.sub [10, 11, 12, 13, 14, 15, 16, 17, 18, 19, 20, 21, 0, 1, 2, 3, 4, 5, 6, 7, 8, 9] rfl
    have hD : va_D (fun q : Nat => s.heap.size ≤ q) (lwW o fo q h a0 a1 a2 a3 a4 a5 g b0 b1 mo z1 z2 z3 z4 z5 z6 z7 z8 z9 cI cL fi la B G pr (nI N) hs cs mf ml M td lf laid piled prs thr) := hD.sub [10, 11, 12, 13, 14, 15, 16, 17, 18, 19, 20, 21, 0, 1, 2, 3, 4, 5, 6, 7, 8, 9] (by decide) rfl
    refine lv_istore (lv' := [(5, .int (cPile G.2.2.1 G.1 x1 x2)), (4, .int (nI i)), (3, .ref o), (2, .ref mo), (1, .ref q), (0, .ref b)]) hx hb dL_law_229 hl (by decide) rfl (fun ls hl => ?_)
    refine lv_aload_n hx hb dL_law_231 rfl (lv_at hl 3 rfl) ?_
    refine lv_aload_n hx hb dL_law_232 rfl (lv_at hl 5 rfl) ?_
    refine lv_iload hx hb dL_law_233 (lv_at hl 1 rfl) ?_
    refine lv_iconst (v := 1) hx hb dL_law_235 (by decide) ?_
    refine lv_iadd hx hb dL_law_236 ?_
    refine pq_top (nI (i + 1)) (nI_1 _) ?_
    refine va_sld hx hb hX hbl hbA hS (vp_in_nI (by omega) (by omega)) dL_law_237 ?_
    rw [← hx1]
    refine lv_aload_n hx hb dL_law_238 rfl (lv_at hl 5 rfl) ?_
    refine lv_iload hx hb dL_law_239 (lv_at hl 1 rfl) ?_
    refine lv_iconst (v := 2) hx hb dL_law_241 (by decide) ?_
    refine lv_iadd hx hb dL_law_242 ?_
    refine pq_top (nI (i + 2)) (nI_add _ 2) ?_
    refine va_sld hx hb hX hbl hbA hS (vp_in_nI (by omega) (by omega)) dL_law_243 ?_
    rw [← hx2]
    refine pq_callV (rest := []) (wr := (o, .inl (cL, 1, .inr (.inl fo))) :: ppW q h a0 a1 a2 a3 a4 a5 g b0 b1 cI fi la B G pr) (own := RL) (nL := 9) (q0 := 12) (ci := 3) [12, 13, 14, 15, 16, 17, 18, 19, 20, 21] [0, 1, 2, 3, 4, 5, 6, 7, 8, 9, 10, 11] [.int x1, .int x2] (mX3_pile l D cI mo z1 z2 z3 z4 z5 z6 z7 z8 z9 (nI N) hs cs mf ml M td lf laid piled prs thr x1 x2 N rfl hN1 hN2 (m_hsp hN5 hT) (m_hch hN5 hT) (m_hrt hN1 hN5 hT)) ⟨hx, hb, hml, hown, hts⟩ (cwV 2 hts gL_law_X3_pile rfl rfl rfl (by decide +kernel) ⟨Nat.le_of_ble_eq_true rfl, Nat.le_of_ble_eq_true rfl⟩) pq_bl0 (fun _ _ _ => trivial) (hK.sub [0] rfl) hP hD hS hA rfl (by decide) rfl (by decide) (by decide) rfl rfl rfl rfl hl.1 rfl (Nat.le_of_ble_eq_true rfl) dL_law_244 ⟨by show n + 3 + 0 ≤ 601024; omega, by show sl + 18 + 0 ≤ 7293034; omega⟩ (fun v w1 H locs hq hP hD hS hz => ?_)
    rcases hq with ⟨hm, rfl, rfl⟩ | ⟨k2, hxk2, hk2, rfl, ⟨td2, rfl⟩, hm0⟩
    · skip
      have hP : va_P D vwCl (lwW o fo q h a0 a1 a2 a3 a4 a5 g b0 b1 mo z1 z2 z3 z4 z5 z6 z7 z8 z9 cI cL fi la B G pr (nI N) hs cs mf ml M td lf laid piled prs (cPile (nI N) hs x1 x2)) H := hP
      have hD : va_D (fun q : Nat => s.heap.size ≤ q) (lwW o fo q h a0 a1 a2 a3 a4 a5 g b0 b1 mo z1 z2 z3 z4 z5 z6 z7 z8 z9 cI cL fi la B G pr (nI N) hs cs mf ml M td lf laid piled prs (cPile (nI N) hs x1 x2)) := hD
      refine W.eq (g2 := F0 m 247 ls [.int 0]) rfl ?_
      refine lv_istore (lv' := [(6, .int 0), (5, .int (cPile G.2.2.1 G.1 x1 x2)), (4, .int (nI i)), (3, .ref o), (2, .ref mo), (1, .ref q), (0, .ref b)]) hx hb dL_law_247 hl (by decide) rfl (fun ls hl => ?_)
      refine lv_aload_n hx hb dL_law_249 rfl (lv_at hl 4 rfl) ?_
      refine pq_callV (rest := []) (wr := (o, .inl (cL, 1, .inr (.inl fo))) :: ppW q h a0 a1 a2 a3 a4 a5 g b0 b1 cI fi la B G pr) (own := RL) (nL := 9) (q0 := 12) (ci := 3) [12, 13, 14, 15, 16, 17, 18, 19, 20, 21] [0, 1, 2, 3, 4, 5, 6, 7, 8, 9, 10, 11] [] (mX3_thrown l D cI mo z1 z2 z3 z4 z5 z6 z7 z8 z9 (nI N) hs cs mf ml M td lf laid piled prs (cPile (nI N) hs x1 x2)) ⟨hx, hb, hml, hown, hts⟩ (cwV 0 hts gL_law_X3_thrown rfl rfl rfl (by decide +kernel) ⟨Nat.le_of_ble_eq_true rfl, Nat.le_of_ble_eq_true rfl⟩) pq_bl0 (fun _ _ _ => trivial) (hK.sub [0] rfl) hP hD hS hA rfl (by decide) rfl (by decide) (by decide) rfl rfl rfl rfl hl.1 rfl (Nat.le_of_ble_eq_true rfl) dL_law_250 ⟨by show n + 3 + 0 + 0 ≤ 601024; omega, by show sl + 18 + 0 + 0 ≤ 7293034; omega⟩ (fun v w1 H locs hq hP hD hS hz => ?_)
      obtain ⟨rfl, rfl⟩ := hq
      have hP : va_P D vwCl (lwW o fo q h a0 a1 a2 a3 a4 a5 g b0 b1 mo z1 z2 z3 z4 z5 z6 z7 z8 z9 cI cL fi la B G pr (nI N) hs cs mf ml M td lf laid piled prs (cPile (nI N) hs x1 x2)) H := hP
      have hD : va_D (fun q : Nat => s.heap.size ≤ q) (lwW o fo q h a0 a1 a2 a3 a4 a5 g b0 b1 mo z1 z2 z3 z4 z5 z6 z7 z8 z9 cI cL fi la B G pr (nI N) hs cs mf ml M td lf laid piled prs (cPile (nI N) hs x1 x2)) := hD
      refine W.eq (g2 := F0 m 253 ls [.int (cPile (nI N) hs x1 x2)]) rfl ?_
      refine lv_iload hx hb dL_law_253 (lv_at hl 1 rfl) ?_
      refine lv_icmp_eq (tgt := 260) hx hb dL_law_255 (by decide) (fun _ => ?_) (fun c9 => absurd ((iv_cpile I x1 x2).symm) c9)
      refine lv_iload hx hb dL_law_260 (lv_at hl 1 rfl) ?_
      refine lv_if_ne (tgt := 277) hx hb dL_law_262 (by decide) (fun _ => ?_) (fun c9 => absurd c9 hne)
      refine lv_goto (tgt := 1291) hx hb dL_law_277 (by decide) ?_
      refine W.widen (k := n + 6) (n := sl + 36) (by omega) (by omega) ?_
      exact K _ H locs ls ⟨_, _, _, _, _, _, _, _, _, _, _, _, _, _, _, _, _, _, _, rfl, rfl, I, hg, hpr⟩ hP hD hS (lv_sub hl [2, 3, 4, 5, 6] rfl)
    · exact (hne ((iv_cpile I x1 x2).trans hm0)).elim

set_option maxHeartbeats 4000000 in
set_option maxRecDepth 100000 in
theorem law_lower {p : Program} {l : Launch} {ev : Env} {s : State} {m : MethodId} {b L : Nat} {xs : Nat → Int32} {below : List Frame} {meth : Method} {cd : Code} {Q : State → Prop} {o q h a0 a1 a2 a3 a4 a5 g b0 b1 mo z1 z2 z3 z4 z5 z6 z7 z8 z9 : Nat} {D : va_G} {cI cL : ClassId} {i n sl : Nat} (C : LC p l s m meth cd b L xs D cI cL) (hi : i + 4 ≤ L) (hn : n + 6 ≤ 600000) (hsl : sl + 36 ≤ 7000000) (K : LK p l ev s m b below meth cd Q o q h a0 a1 a2 a3 a4 a5 g b0 b1 mo z1 z2 z3 z4 z5 z6 z7 z8 z9 D cI cL i 1291 (n + 6) (sl + 36)) : LK p l ev s m b below meth cd Q o q h a0 a1 a2 a3 a4 a5 g b0 b1 mo z1 z2 z3 z4 z5 z6 z7 z8 z9 D cI cL i 280 n sl := by
  obtain ⟨hx, hb, hml, hown, hts, hX, hbl, hK, hE, hfl, hL⟩ := C
  have hA : ∀ q : Nat, s.heap.size ≤ q → (fun q : Nat => s.heap.size ≤ q) q := fun _ h => h
  have hbA : ¬ (fun q : Nat => s.heap.size ≤ q) b := Nat.not_le.mpr hbl
  rintro w H locs ls ⟨fo, fi, la, B, G, pr, N, hs, cs, mf, ml, M, td, lf, laid, piled, prs, thr, col, rfl, rfl, I, hg, hpr⟩ hP hD hS hl
  have hN1 := I.1
  have hN2 := I.2.1
  have hNN : G.2.2.1 = nI N := I.2.2.2.2.2.2.2.2
  have hT := I.2.2.2.1
  have hN5 : N < 65 := by omega
  obtain ⟨x1, hx1⟩ : ∃ z, z = xs (nI (i + 1)).toNatClampNeg := ⟨_, rfl⟩
  obtain ⟨x2, hx2⟩ : ∃ z, z = xs (nI (i + 2)).toNatClampNeg := ⟨_, rfl⟩
  obtain ⟨x3, hx3⟩ : ∃ z, z = xs (nI (i + 3)).toNatClampNeg := ⟨_, rfl⟩
  refine lv_aload_n hx hb dL_law_280 rfl (lv_at hl 3 rfl) ?_
  refine lv_aload_n hx hb dL_law_281 rfl (lv_at hl 4 rfl) ?_
  refine lv_iload hx hb dL_law_282 (lv_at hl 0 rfl) ?_
  refine lv_iconst (v := 1) hx hb dL_law_284 (by decide) ?_
  refine lv_iadd hx hb dL_law_285 ?_
  refine pq_top (nI (i + 1)) (nI_1 _) ?_
  refine va_sld hx hb hX hbl hbA hS (vp_in_nI (by omega) (by omega)) dL_law_286 ?_
  rw [← hx1]
  refine lv_aload_n hx hb dL_law_287 rfl (lv_at hl 4 rfl) ?_
  refine lv_iload hx hb dL_law_288 (lv_at hl 0 rfl) ?_
  refine lv_iconst (v := 2) hx hb dL_law_290 (by decide) ?_
  refine lv_iadd hx hb dL_law_291 ?_
  refine pq_top (nI (i + 2)) (nI_add _ 2) ?_
  refine va_sld hx hb hX hbl hbA hS (vp_in_nI (by omega) (by omega)) dL_law_292 ?_
  rw [← hx2]
  refine lv_aload_n hx hb dL_law_293 rfl (lv_at hl 4 rfl) ?_
  refine lv_iload hx hb dL_law_294 (lv_at hl 0 rfl) ?_
  refine lv_iconst (v := 3) hx hb dL_law_296 (by decide) ?_
  refine lv_iadd hx hb dL_law_297 ?_
  refine pq_top (nI (i + 3)) (nI_add _ 3) ?_
  refine va_sld hx hb hX hbl hbA hS (vp_in_nI (by omega) (by omega)) dL_law_298 ?_
  rw [← hx3]
  refine lv_aload_n hx hb dL_law_299 rfl (lv_at hl 1 rfl) ?_
  refine pq_callSW (wr := mdW mo z1 z2 z3 z4 z5 z6 z7 z8 z9 cI (nI N) hs cs mf ml M td lf laid piled prs thr) (own := RL) (nL := 9) [0, 1, 2, 3, 4, 5, 6, 7, 8, 9, 10, 11] [12, 13, 14, 15, 16, 17, 18, 19, 20, 21] [.ref q, .int x1, .int x2, .int x3, .ref o] (mL_lower l D cI cL o fo q h a0 a1 a2 a3 a4 a5 g b0 b1 fi la B G pr N hfl hNN hN1 hN2 x1 x2 x3) ⟨hx, hb, hml, hown, hts⟩ (vx_cwSW 5 hts gL_law_L_lower rfl rfl rfl (by decide +kernel) ⟨Nat.le_of_ble_eq_true rfl, Nat.le_of_ble_eq_true rfl⟩) pq_blL (hE.call hD hS hA [0, 1, 2, 3, 4, 5, 6, 7, 8, 9, 10, 11] rfl) hK hP hD hS hA rfl (by decide) rfl (by decide) (by decide) rfl hl.1 rfl (Nat.le_of_ble_eq_true rfl) dL_law_300 ⟨by show n + 4 ≤ 601024; omega, by show sl + 24 ≤ 7293034; omega⟩ (fun v w1 H locs hq hP hD hS hz => ?_)
  rcases hq with ⟨r, wc, hpost, rfl, rfl⟩ | ⟨hne, rfl, rfl⟩
  · obtain ⟨kf, kt, hxf, hxt, hft, htN, hv, rfl, hc0⟩ := hpost
    have hr := vi_eq hv
    have hP : va_P D vwCl (lwW o (vp_updL fo 0 r.toInt64) q h a0 a1 a2 a3 a4 a5 g b0 b1 mo z1 z2 z3 z4 z5 z6 z7 z8 z9 cI cL fi la (bPressFrom fi la (nI kf) (nI kt) x3 7 (bBegin B) 1) (gPressH x3 kf G.1 (kt + 1 - kf), gPressC x3 kf G.2.1 (kt + 1 - kf), G.2.2.1, G.2.2.2) (pr + (B.2.2.2.1 1 - (bPressFrom fi la (nI kf) (nI kt) x3 7 (bBegin B) 1).2.2.2.1 1)) (nI N) hs cs mf ml M td lf laid piled prs thr) H := hP.sub [10, 11, 12, 13, 14, 15, 16, 17, 18, 19, 20, 21, 0, 1, 2, 3, 4, 5, 6, 7, 8, 9] rfl
    have hD : va_D (fun q : Nat => s.heap.size ≤ q) (lwW o (vp_updL fo 0 r.toInt64) q h a0 a1 a2 a3 a4 a5 g b0 b1 mo z1 z2 z3 z4 z5 z6 z7 z8 z9 cI cL fi la (bPressFrom fi la (nI kf) (nI kt) x3 7 (bBegin B) 1) (gPressH x3 kf G.1 (kt + 1 - kf), gPressC x3 kf G.2.1 (kt + 1 - kf), G.2.2.1, G.2.2.2) (pr + (B.2.2.2.1 1 - (bPressFrom fi la (nI kf) (nI kt) x3 7 (bBegin B) 1).2.2.2.1 1)) (nI N) hs cs mf ml M td lf laid piled prs thr) := hD.sub [10, 11, 12, 13, 14, 15, 16, 17, 18, 19, 20, 21, 0, 1, 2, 3, 4, 5, 6, 7, 8, 9] (by decide) rfl
    refine lv_istore (lv' := [(5, .int 0), (4, .int (nI i)), (3, .ref o), (2, .ref mo), (1, .ref q), (0, .ref b)]) hx hb dL_law_303 hl (by decide) rfl (fun ls hl => ?_)
    refine lv_aload_n hx hb dL_law_305 rfl (lv_at hl 3 rfl) ?_
    refine lv_aload_n hx hb dL_law_306 rfl (lv_at hl 5 rfl) ?_
    refine lv_iload hx hb dL_law_307 (lv_at hl 1 rfl) ?_
    refine lv_iconst (v := 1) hx hb dL_law_309 (by decide) ?_
    refine lv_iadd hx hb dL_law_310 ?_
    refine pq_top (nI (i + 1)) (nI_1 _) ?_
    refine va_sld hx hb hX hbl hbA hS (vp_in_nI (by omega) (by omega)) dL_law_311 ?_
    rw [← hx1]
    refine lv_aload_n hx hb dL_law_312 rfl (lv_at hl 5 rfl) ?_
    refine lv_iload hx hb dL_law_313 (lv_at hl 1 rfl) ?_
    refine lv_iconst (v := 2) hx hb dL_law_315 (by decide) ?_
    refine lv_iadd hx hb dL_law_316 ?_
    refine pq_top (nI (i + 2)) (nI_add _ 2) ?_
    refine va_sld hx hb hX hbl hbA hS (vp_in_nI (by omega) (by omega)) dL_law_317 ?_
    rw [← hx2]
    refine lv_aload_n hx hb dL_law_318 rfl (lv_at hl 5 rfl) ?_
    refine lv_iload hx hb dL_law_319 (lv_at hl 1 rfl) ?_
    refine lv_iconst (v := 3) hx hb dL_law_321 (by decide) ?_
    refine lv_iadd hx hb dL_law_322 ?_
    refine pq_top (nI (i + 3)) (nI_add _ 3) ?_
    refine va_sld hx hb hX hbl hbA hS (vp_in_nI (by omega) (by omega)) dL_law_323 ?_
    rw [← hx3]
    refine pq_callV (rest := []) (wr := (o, .inl (cL, 1, .inr (.inl (vp_updL fo 0 r.toInt64)))) :: ppW q h a0 a1 a2 a3 a4 a5 g b0 b1 cI fi la (bPressFrom fi la (nI kf) (nI kt) x3 7 (bBegin B) 1) (gPressH x3 kf G.1 (kt + 1 - kf), gPressC x3 kf G.2.1 (kt + 1 - kf), G.2.2.1, G.2.2.2) (pr + (B.2.2.2.1 1 - (bPressFrom fi la (nI kf) (nI kt) x3 7 (bBegin B) 1).2.2.2.1 1))) (own := RL) (nL := 9) (q0 := 12) (ci := 3) [12, 13, 14, 15, 16, 17, 18, 19, 20, 21] [0, 1, 2, 3, 4, 5, 6, 7, 8, 9, 10, 11] [.int x1, .int x2, .int x3] (mX3_lower l D cI mo z1 z2 z3 z4 z5 z6 z7 z8 z9 (nI N) hs cs mf ml M td lf laid piled prs thr x1 x2 x3 N rfl hN1 hN2 (m_hsp hN5 hT) (m_hch hN5 hT) (m_hrt hN1 hN5 hT)) ⟨hx, hb, hml, hown, hts⟩ (cwV 3 hts gL_law_X3_lower rfl rfl rfl (by decide +kernel) ⟨Nat.le_of_ble_eq_true rfl, Nat.le_of_ble_eq_true rfl⟩) pq_bl0 (fun _ _ _ => trivial) (hK.sub [0] rfl) hP hD hS hA rfl (by decide) rfl (by decide) (by decide) rfl rfl rfl rfl hl.1 rfl (Nat.le_of_ble_eq_true rfl) dL_law_324 ⟨by show n + 4 + 0 ≤ 601024; omega, by show sl + 24 + 0 ≤ 7293034; omega⟩ (fun v w1 H locs hq hP hD hS hz => ?_)
    rcases hq with ⟨hm, rfl, rfl⟩ | ⟨kf2, kt2, hxf2, hxt2, hft2, htN2, rfl, ⟨td2, rfl⟩, hm0⟩
    · exact (hm (by rw [hNN] at hc0; exact hc0)).elim
    · skip
      have hP : va_P D vwCl (lwW o (vp_updL fo 0 r.toInt64) q h a0 a1 a2 a3 a4 a5 g b0 b1 mo z1 z2 z3 z4 z5 z6 z7 z8 z9 cI cL fi la (bPressFrom fi la (nI kf) (nI kt) x3 7 (bBegin B) 1) (gPressH x3 kf G.1 (kt + 1 - kf), gPressC x3 kf G.2.1 (kt + 1 - kf), G.2.2.1, G.2.2.2) (pr + (B.2.2.2.1 1 - (bPressFrom fi la (nI kf) (nI kt) x3 7 (bBegin B) 1).2.2.2.1 1)) (nI N) (mPressH x3 kf2 hs (kt2 + 1 - kf2)) (mPressC x3 kf2 cs (kt2 + 1 - kf2)) mf ml (mPress mf ml (nI kf2) (nI kt2) x3 7 (bBegin M) 1) td2 0 laid piled (prs + mAbove hs kf2 (kt2 + 1 - kf2) x3) 0) H := hP
      have hD : va_D (fun q : Nat => s.heap.size ≤ q) (lwW o (vp_updL fo 0 r.toInt64) q h a0 a1 a2 a3 a4 a5 g b0 b1 mo z1 z2 z3 z4 z5 z6 z7 z8 z9 cI cL fi la (bPressFrom fi la (nI kf) (nI kt) x3 7 (bBegin B) 1) (gPressH x3 kf G.1 (kt + 1 - kf), gPressC x3 kf G.2.1 (kt + 1 - kf), G.2.2.1, G.2.2.2) (pr + (B.2.2.2.1 1 - (bPressFrom fi la (nI kf) (nI kt) x3 7 (bBegin B) 1).2.2.2.1 1)) (nI N) (mPressH x3 kf2 hs (kt2 + 1 - kf2)) (mPressC x3 kf2 cs (kt2 + 1 - kf2)) mf ml (mPress mf ml (nI kf2) (nI kt2) x3 7 (bBegin M) 1) td2 0 laid piled (prs + mAbove hs kf2 (kt2 + 1 - kf2) x3) 0) := hD
      refine W.eq (g2 := F0 m 327 ls [.int (mAbove hs kf2 (kt2 + 1 - kf2) x3)]) rfl ?_
      refine lv_istore (lv' := [(6, .int (mAbove hs kf2 (kt2 + 1 - kf2) x3)), (5, .int 0), (4, .int (nI i)), (3, .ref o), (2, .ref mo), (1, .ref q), (0, .ref b)]) hx hb dL_law_327 hl (by decide) rfl (fun ls hl => ?_)
      refine lv_aload_n hx hb dL_law_329 rfl (lv_at hl 4 rfl) ?_
      refine pq_callV (rest := []) (wr := (o, .inl (cL, 1, .inr (.inl (vp_updL fo 0 r.toInt64)))) :: ppW q h a0 a1 a2 a3 a4 a5 g b0 b1 cI fi la (bPressFrom fi la (nI kf) (nI kt) x3 7 (bBegin B) 1) (gPressH x3 kf G.1 (kt + 1 - kf), gPressC x3 kf G.2.1 (kt + 1 - kf), G.2.2.1, G.2.2.2) (pr + (B.2.2.2.1 1 - (bPressFrom fi la (nI kf) (nI kt) x3 7 (bBegin B) 1).2.2.2.1 1))) (own := RL) (nL := 9) (q0 := 12) (ci := 3) [12, 13, 14, 15, 16, 17, 18, 19, 20, 21] [0, 1, 2, 3, 4, 5, 6, 7, 8, 9, 10, 11] [] (mX3_thrown l D cI mo z1 z2 z3 z4 z5 z6 z7 z8 z9 (nI N) (mPressH x3 kf2 hs (kt2 + 1 - kf2)) (mPressC x3 kf2 cs (kt2 + 1 - kf2)) mf ml (mPress mf ml (nI kf2) (nI kt2) x3 7 (bBegin M) 1) td2 0 laid piled (prs + mAbove hs kf2 (kt2 + 1 - kf2) x3) 0) ⟨hx, hb, hml, hown, hts⟩ (cwV 0 hts gL_law_X3_thrown rfl rfl rfl (by decide +kernel) ⟨Nat.le_of_ble_eq_true rfl, Nat.le_of_ble_eq_true rfl⟩) pq_bl0 (fun _ _ _ => trivial) (hK.sub [0] rfl) hP hD hS hA rfl (by decide) rfl (by decide) (by decide) rfl rfl rfl rfl hl.1 rfl (Nat.le_of_ble_eq_true rfl) dL_law_330 ⟨by show n + 4 + 0 + 0 ≤ 601024; omega, by show sl + 24 + 0 + 0 ≤ 7293034; omega⟩ (fun v w1 H locs hq hP hD hS hz => ?_)
      obtain ⟨rfl, rfl⟩ := hq
      have hP : va_P D vwCl (lwW o (vp_updL fo 0 r.toInt64) q h a0 a1 a2 a3 a4 a5 g b0 b1 mo z1 z2 z3 z4 z5 z6 z7 z8 z9 cI cL fi la (bPressFrom fi la (nI kf) (nI kt) x3 7 (bBegin B) 1) (gPressH x3 kf G.1 (kt + 1 - kf), gPressC x3 kf G.2.1 (kt + 1 - kf), G.2.2.1, G.2.2.2) (pr + (B.2.2.2.1 1 - (bPressFrom fi la (nI kf) (nI kt) x3 7 (bBegin B) 1).2.2.2.1 1)) (nI N) (mPressH x3 kf2 hs (kt2 + 1 - kf2)) (mPressC x3 kf2 cs (kt2 + 1 - kf2)) mf ml (mPress mf ml (nI kf2) (nI kt2) x3 7 (bBegin M) 1) td2 0 laid piled (prs + mAbove hs kf2 (kt2 + 1 - kf2) x3) 0) H := hP
      have hD : va_D (fun q : Nat => s.heap.size ≤ q) (lwW o (vp_updL fo 0 r.toInt64) q h a0 a1 a2 a3 a4 a5 g b0 b1 mo z1 z2 z3 z4 z5 z6 z7 z8 z9 cI cL fi la (bPressFrom fi la (nI kf) (nI kt) x3 7 (bBegin B) 1) (gPressH x3 kf G.1 (kt + 1 - kf), gPressC x3 kf G.2.1 (kt + 1 - kf), G.2.2.1, G.2.2.2) (pr + (B.2.2.2.1 1 - (bPressFrom fi la (nI kf) (nI kt) x3 7 (bBegin B) 1).2.2.2.1 1)) (nI N) (mPressH x3 kf2 hs (kt2 + 1 - kf2)) (mPressC x3 kf2 cs (kt2 + 1 - kf2)) mf ml (mPress mf ml (nI kf2) (nI kt2) x3 7 (bBegin M) 1) td2 0 laid piled (prs + mAbove hs kf2 (kt2 + 1 - kf2) x3) 0) := hD
      refine W.eq (g2 := F0 m 333 ls [.int 0]) rfl ?_
      refine lv_iload hx hb dL_law_333 (lv_at hl 1 rfl) ?_
      refine lv_icmp_eq (tgt := 340) hx hb dL_law_335 (by decide) (fun _ => ?_) (fun c9 => absurd rfl c9)
      refine lv_iload hx hb dL_law_340 (lv_at hl 1 rfl) ?_
      refine lv_if_ne (tgt := 357) hx hb dL_law_342 (by decide) (fun c9 => absurd rfl c9) (fun _ => ?_)
      refine lv_aload_n hx hb dL_law_345 rfl (lv_at hl 3 rfl) ?_
      refine lv_iconst (v := 0) hx hb dL_law_346 (by decide) ?_
      refine pq_lald hx hb hK hP 0 1 rfl rfl dL_law_347 ?_
      have hkf : kf = kf2 := nI_inj (by omega) (by omega) (hxf.symm.trans hxf2)
      have hkt : kt = kt2 := nI_inj (by omega) (by omega) (hxt.symm.trans hxt2)
      subst hkf
      subst hkt
      obtain ⟨I2, hans0⟩ := st_lower I hft htN hm0 G.2.2.2
      have hans := hr.trans hans0
      have hg2 := hg
      have hpr2 : pr + (B.2.2.2.1 1 - (bPressFrom fi la (nI kf) (nI kt) x3 7 (bBegin B) 1).2.2.2.1 1) = prs + mAbove hs kf (kt + 1 - kf) x3 := by rw [hans0, hpr]
      rw [updL_0, hans]
      refine lv_iload hx hb dL_law_348 (lv_at hl 0 rfl) ?_
      refine lv_i2l hx hb dL_law_350 rfl ?_
      refine W.lcmp hx hb dL_law_351 ?_
      rw [lg_cmp_s]
      refine lv_if_eq (tgt := 357) hx hb dL_law_352 (by decide) (fun _ => ?_) (fun c9 => absurd rfl c9)
      refine lv_goto (tgt := 1291) hx hb dL_law_357 (by decide) ?_
      refine W.widen (k := n + 6) (n := sl + 36) (by omega) (by omega) ?_
      exact K _ H locs ls ⟨_, _, _, _, _, _, _, _, _, _, _, _, _, _, _, _, _, _, _, rfl, rfl, I2, hg2, hpr2⟩ hP hD hS (lv_sub hl [2, 3, 4, 5, 6] rfl)
  · skip
    have hP : va_P D vwCl (lwW o fo q h a0 a1 a2 a3 a4 a5 g b0 b1 mo z1 z2 z3 z4 z5 z6 z7 z8 z9 cI cL fi la B G pr (nI N) hs cs mf ml M td lf laid piled prs thr) H := hP.sub [10, 11, 12, 13, 14, 15, 16, 17, 18, 19, 20, 21, 0, 1, 2, 3, 4, 5, 6, 7, 8, 9] rfl
    have hD : va_D (fun q : Nat => s.heap.size ≤ q) (lwW o fo q h a0 a1 a2 a3 a4 a5 g b0 b1 mo z1 z2 z3 z4 z5 z6 z7 z8 z9 cI cL fi la B G pr (nI N) hs cs mf ml M td lf laid piled prs thr) := hD.sub [10, 11, 12, 13, 14, 15, 16, 17, 18, 19, 20, 21, 0, 1, 2, 3, 4, 5, 6, 7, 8, 9] (by decide) rfl
    refine lv_istore (lv' := [(5, .int (cLow G.2.2.1 x1 x2 x3 0 1000)), (4, .int (nI i)), (3, .ref o), (2, .ref mo), (1, .ref q), (0, .ref b)]) hx hb dL_law_303 hl (by decide) rfl (fun ls hl => ?_)
    refine lv_aload_n hx hb dL_law_305 rfl (lv_at hl 3 rfl) ?_
    refine lv_aload_n hx hb dL_law_306 rfl (lv_at hl 5 rfl) ?_
    refine lv_iload hx hb dL_law_307 (lv_at hl 1 rfl) ?_
    refine lv_iconst (v := 1) hx hb dL_law_309 (by decide) ?_
    refine lv_iadd hx hb dL_law_310 ?_
    refine pq_top (nI (i + 1)) (nI_1 _) ?_
    refine va_sld hx hb hX hbl hbA hS (vp_in_nI (by omega) (by omega)) dL_law_311 ?_
    rw [← hx1]
    refine lv_aload_n hx hb dL_law_312 rfl (lv_at hl 5 rfl) ?_
    refine lv_iload hx hb dL_law_313 (lv_at hl 1 rfl) ?_
    refine lv_iconst (v := 2) hx hb dL_law_315 (by decide) ?_
    refine lv_iadd hx hb dL_law_316 ?_
    refine pq_top (nI (i + 2)) (nI_add _ 2) ?_
    refine va_sld hx hb hX hbl hbA hS (vp_in_nI (by omega) (by omega)) dL_law_317 ?_
    rw [← hx2]
    refine lv_aload_n hx hb dL_law_318 rfl (lv_at hl 5 rfl) ?_
    refine lv_iload hx hb dL_law_319 (lv_at hl 1 rfl) ?_
    refine lv_iconst (v := 3) hx hb dL_law_321 (by decide) ?_
    refine lv_iadd hx hb dL_law_322 ?_
    refine pq_top (nI (i + 3)) (nI_add _ 3) ?_
    refine va_sld hx hb hX hbl hbA hS (vp_in_nI (by omega) (by omega)) dL_law_323 ?_
    rw [← hx3]
    refine pq_callV (rest := []) (wr := (o, .inl (cL, 1, .inr (.inl fo))) :: ppW q h a0 a1 a2 a3 a4 a5 g b0 b1 cI fi la B G pr) (own := RL) (nL := 9) (q0 := 12) (ci := 3) [12, 13, 14, 15, 16, 17, 18, 19, 20, 21] [0, 1, 2, 3, 4, 5, 6, 7, 8, 9, 10, 11] [.int x1, .int x2, .int x3] (mX3_lower l D cI mo z1 z2 z3 z4 z5 z6 z7 z8 z9 (nI N) hs cs mf ml M td lf laid piled prs thr x1 x2 x3 N rfl hN1 hN2 (m_hsp hN5 hT) (m_hch hN5 hT) (m_hrt hN1 hN5 hT)) ⟨hx, hb, hml, hown, hts⟩ (cwV 3 hts gL_law_X3_lower rfl rfl rfl (by decide +kernel) ⟨Nat.le_of_ble_eq_true rfl, Nat.le_of_ble_eq_true rfl⟩) pq_bl0 (fun _ _ _ => trivial) (hK.sub [0] rfl) hP hD hS hA rfl (by decide) rfl (by decide) (by decide) rfl rfl rfl rfl hl.1 rfl (Nat.le_of_ble_eq_true rfl) dL_law_324 ⟨by show n + 4 + 0 ≤ 601024; omega, by show sl + 24 + 0 ≤ 7293034; omega⟩ (fun v w1 H locs hq hP hD hS hz => ?_)
    rcases hq with ⟨hm, rfl, rfl⟩ | ⟨kf2, kt2, hxf2, hxt2, hft2, htN2, rfl, ⟨td2, rfl⟩, hm0⟩
    · skip
      have hP : va_P D vwCl (lwW o fo q h a0 a1 a2 a3 a4 a5 g b0 b1 mo z1 z2 z3 z4 z5 z6 z7 z8 z9 cI cL fi la B G pr (nI N) hs cs mf ml M td lf laid piled prs (cLow (nI N) x1 x2 x3 0 1000)) H := hP
      have hD : va_D (fun q : Nat => s.heap.size ≤ q) (lwW o fo q h a0 a1 a2 a3 a4 a5 g b0 b1 mo z1 z2 z3 z4 z5 z6 z7 z8 z9 cI cL fi la B G pr (nI N) hs cs mf ml M td lf laid piled prs (cLow (nI N) x1 x2 x3 0 1000)) := hD
      refine W.eq (g2 := F0 m 327 ls [.int 0]) rfl ?_
      refine lv_istore (lv' := [(6, .int 0), (5, .int (cLow G.2.2.1 x1 x2 x3 0 1000)), (4, .int (nI i)), (3, .ref o), (2, .ref mo), (1, .ref q), (0, .ref b)]) hx hb dL_law_327 hl (by decide) rfl (fun ls hl => ?_)
      refine lv_aload_n hx hb dL_law_329 rfl (lv_at hl 4 rfl) ?_
      refine pq_callV (rest := []) (wr := (o, .inl (cL, 1, .inr (.inl fo))) :: ppW q h a0 a1 a2 a3 a4 a5 g b0 b1 cI fi la B G pr) (own := RL) (nL := 9) (q0 := 12) (ci := 3) [12, 13, 14, 15, 16, 17, 18, 19, 20, 21] [0, 1, 2, 3, 4, 5, 6, 7, 8, 9, 10, 11] [] (mX3_thrown l D cI mo z1 z2 z3 z4 z5 z6 z7 z8 z9 (nI N) hs cs mf ml M td lf laid piled prs (cLow (nI N) x1 x2 x3 0 1000)) ⟨hx, hb, hml, hown, hts⟩ (cwV 0 hts gL_law_X3_thrown rfl rfl rfl (by decide +kernel) ⟨Nat.le_of_ble_eq_true rfl, Nat.le_of_ble_eq_true rfl⟩) pq_bl0 (fun _ _ _ => trivial) (hK.sub [0] rfl) hP hD hS hA rfl (by decide) rfl (by decide) (by decide) rfl rfl rfl rfl hl.1 rfl (Nat.le_of_ble_eq_true rfl) dL_law_330 ⟨by show n + 4 + 0 + 0 ≤ 601024; omega, by show sl + 24 + 0 + 0 ≤ 7293034; omega⟩ (fun v w1 H locs hq hP hD hS hz => ?_)
      obtain ⟨rfl, rfl⟩ := hq
      have hP : va_P D vwCl (lwW o fo q h a0 a1 a2 a3 a4 a5 g b0 b1 mo z1 z2 z3 z4 z5 z6 z7 z8 z9 cI cL fi la B G pr (nI N) hs cs mf ml M td lf laid piled prs (cLow (nI N) x1 x2 x3 0 1000)) H := hP
      have hD : va_D (fun q : Nat => s.heap.size ≤ q) (lwW o fo q h a0 a1 a2 a3 a4 a5 g b0 b1 mo z1 z2 z3 z4 z5 z6 z7 z8 z9 cI cL fi la B G pr (nI N) hs cs mf ml M td lf laid piled prs (cLow (nI N) x1 x2 x3 0 1000)) := hD
      refine W.eq (g2 := F0 m 333 ls [.int (cLow (nI N) x1 x2 x3 0 1000)]) rfl ?_
      refine lv_iload hx hb dL_law_333 (lv_at hl 1 rfl) ?_
      refine lv_icmp_eq (tgt := 340) hx hb dL_law_335 (by decide) (fun _ => ?_) (fun c9 => absurd (by rw [hNN]) c9)
      refine lv_iload hx hb dL_law_340 (lv_at hl 1 rfl) ?_
      refine lv_if_ne (tgt := 357) hx hb dL_law_342 (by decide) (fun _ => ?_) (fun c9 => absurd c9 hne)
      refine lv_goto (tgt := 1291) hx hb dL_law_357 (by decide) ?_
      refine W.widen (k := n + 6) (n := sl + 36) (by omega) (by omega) ?_
      exact K _ H locs ls ⟨_, _, _, _, _, _, _, _, _, _, _, _, _, _, _, _, _, _, _, rfl, rfl, I, hg, hpr⟩ hP hD hS (lv_sub hl [2, 3, 4, 5, 6] rfl)
    · exact (hne (by rw [hNN]; exact hm0)).elim

set_option maxHeartbeats 4000000 in
set_option maxRecDepth 100000 in
theorem law_earth {p : Program} {l : Launch} {ev : Env} {s : State} {m : MethodId} {b L : Nat} {xs : Nat → Int32} {below : List Frame} {meth : Method} {cd : Code} {Q : State → Prop} {o q h a0 a1 a2 a3 a4 a5 g b0 b1 mo z1 z2 z3 z4 z5 z6 z7 z8 z9 : Nat} {D : va_G} {cI cL : ClassId} {i n sl : Nat} (C : LC p l s m meth cd b L xs D cI cL) (hi : i + 4 ≤ L) (hn : n + 6 ≤ 600000) (hsl : sl + 36 ≤ 7000000) (K : LK p l ev s m b below meth cd Q o q h a0 a1 a2 a3 a4 a5 g b0 b1 mo z1 z2 z3 z4 z5 z6 z7 z8 z9 D cI cL i 1291 (n + 6) (sl + 36)) : LK p l ev s m b below meth cd Q o q h a0 a1 a2 a3 a4 a5 g b0 b1 mo z1 z2 z3 z4 z5 z6 z7 z8 z9 D cI cL i 360 n sl := by
  obtain ⟨hx, hb, hml, hown, hts, hX, hbl, hK, hE, hfl, hL⟩ := C
  have hA : ∀ q : Nat, s.heap.size ≤ q → (fun q : Nat => s.heap.size ≤ q) q := fun _ h => h
  have hbA : ¬ (fun q : Nat => s.heap.size ≤ q) b := Nat.not_le.mpr hbl
  rintro w H locs ls ⟨fo, fi, la, B, G, pr, N, hs, cs, mf, ml, M, td, lf, laid, piled, prs, thr, col, rfl, rfl, I, hg, hpr⟩ hP hD hS hl
  have hN1 := I.1
  have hN2 := I.2.1
  have hNN : G.2.2.1 = nI N := I.2.2.2.2.2.2.2.2
  have hT := I.2.2.2.1
  have hN5 : N < 65 := by omega
  obtain ⟨x1, hx1⟩ : ∃ z, z = xs (nI (i + 1)).toNatClampNeg := ⟨_, rfl⟩
  obtain ⟨x2, hx2⟩ : ∃ z, z = xs (nI (i + 2)).toNatClampNeg := ⟨_, rfl⟩
  refine lv_aload_n hx hb dL_law_360 rfl (lv_at hl 3 rfl) ?_
  refine lv_aload_n hx hb dL_law_361 rfl (lv_at hl 4 rfl) ?_
  refine lv_iload hx hb dL_law_362 (lv_at hl 0 rfl) ?_
  refine lv_iconst (v := 1) hx hb dL_law_364 (by decide) ?_
  refine lv_iadd hx hb dL_law_365 ?_
  refine pq_top (nI (i + 1)) (nI_1 _) ?_
  refine va_sld hx hb hX hbl hbA hS (vp_in_nI (by omega) (by omega)) dL_law_366 ?_
  rw [← hx1]
  refine lv_aload_n hx hb dL_law_367 rfl (lv_at hl 4 rfl) ?_
  refine lv_iload hx hb dL_law_368 (lv_at hl 0 rfl) ?_
  refine lv_iconst (v := 2) hx hb dL_law_370 (by decide) ?_
  refine lv_iadd hx hb dL_law_371 ?_
  refine pq_top (nI (i + 2)) (nI_add _ 2) ?_
  refine va_sld hx hb hX hbl hbA hS (vp_in_nI (by omega) (by omega)) dL_law_372 ?_
  rw [← hx2]
  refine lv_aload_n hx hb dL_law_373 rfl (lv_at hl 1 rfl) ?_
  refine pq_callSW (wr := mdW mo z1 z2 z3 z4 z5 z6 z7 z8 z9 cI (nI N) hs cs mf ml M td lf laid piled prs thr) (own := RL) (nL := 9) [0, 1, 2, 3, 4, 5, 6, 7, 8, 9, 10, 11] [12, 13, 14, 15, 16, 17, 18, 19, 20, 21] [.ref q, .int x1, .int x2, .ref o] (mL_earth l D cI cL o fo q h a0 a1 a2 a3 a4 a5 g b0 b1 fi la B G pr N hfl hNN hN1 hN2 x1 x2) ⟨hx, hb, hml, hown, hts⟩ (vx_cwSW 4 hts gL_law_L_earth rfl rfl rfl (by decide +kernel) ⟨Nat.le_of_ble_eq_true rfl, Nat.le_of_ble_eq_true rfl⟩) pq_blL (hE.call hD hS hA [0, 1, 2, 3, 4, 5, 6, 7, 8, 9, 10, 11] rfl) hK hP hD hS hA rfl (by decide) rfl (by decide) (by decide) rfl hl.1 rfl (Nat.le_of_ble_eq_true rfl) dL_law_374 ⟨by show n + 3 ≤ 601024; omega, by show sl + 18 ≤ 7293034; omega⟩ (fun v w1 H locs hq hP hD hS hz => ?_)
  rcases hq with ⟨r, wc, hpost, rfl, rfl⟩ | ⟨hne, rfl, rfl⟩
  · obtain ⟨kf, kt, hxf, hxt, hft, htN, hv, rfl, hc0⟩ := hpost
    have hr := vi_eq hv
    have hP : va_P D vwCl (lwW o (vp_updL fo 0 r.toInt64) q h a0 a1 a2 a3 a4 a5 g b0 b1 mo z1 z2 z3 z4 z5 z6 z7 z8 z9 cI cL fi la ((bSumFrom fi la (nI kf) (nI kt) 7 (bBegin B) 1).2) G pr (nI N) hs cs mf ml M td lf laid piled prs thr) H := hP.sub [10, 11, 12, 13, 14, 15, 16, 17, 18, 19, 20, 21, 0, 1, 2, 3, 4, 5, 6, 7, 8, 9] rfl
    have hD : va_D (fun q : Nat => s.heap.size ≤ q) (lwW o (vp_updL fo 0 r.toInt64) q h a0 a1 a2 a3 a4 a5 g b0 b1 mo z1 z2 z3 z4 z5 z6 z7 z8 z9 cI cL fi la ((bSumFrom fi la (nI kf) (nI kt) 7 (bBegin B) 1).2) G pr (nI N) hs cs mf ml M td lf laid piled prs thr) := hD.sub [10, 11, 12, 13, 14, 15, 16, 17, 18, 19, 20, 21, 0, 1, 2, 3, 4, 5, 6, 7, 8, 9] (by decide) rfl
    refine lv_istore (lv' := [(5, .int 0), (4, .int (nI i)), (3, .ref o), (2, .ref mo), (1, .ref q), (0, .ref b)]) hx hb dL_law_377 hl (by decide) rfl (fun ls hl => ?_)
    refine lv_aload_n hx hb dL_law_379 rfl (lv_at hl 3 rfl) ?_
    refine lv_aload_n hx hb dL_law_380 rfl (lv_at hl 5 rfl) ?_
    refine lv_iload hx hb dL_law_381 (lv_at hl 1 rfl) ?_
    refine lv_iconst (v := 1) hx hb dL_law_383 (by decide) ?_
    refine lv_iadd hx hb dL_law_384 ?_
    refine pq_top (nI (i + 1)) (nI_1 _) ?_
    refine va_sld hx hb hX hbl hbA hS (vp_in_nI (by omega) (by omega)) dL_law_385 ?_
    rw [← hx1]
    refine lv_aload_n hx hb dL_law_386 rfl (lv_at hl 5 rfl) ?_
    refine lv_iload hx hb dL_law_387 (lv_at hl 1 rfl) ?_
    refine lv_iconst (v := 2) hx hb dL_law_389 (by decide) ?_
    refine lv_iadd hx hb dL_law_390 ?_
    refine pq_top (nI (i + 2)) (nI_add _ 2) ?_
    refine va_sld hx hb hX hbl hbA hS (vp_in_nI (by omega) (by omega)) dL_law_391 ?_
    rw [← hx2]
    refine pq_callV (rest := []) (wr := (o, .inl (cL, 1, .inr (.inl (vp_updL fo 0 r.toInt64)))) :: ppW q h a0 a1 a2 a3 a4 a5 g b0 b1 cI fi la ((bSumFrom fi la (nI kf) (nI kt) 7 (bBegin B) 1).2) G pr) (own := RL) (nL := 9) (q0 := 12) (ci := 3) [12, 13, 14, 15, 16, 17, 18, 19, 20, 21] [0, 1, 2, 3, 4, 5, 6, 7, 8, 9, 10, 11] [.int x1, .int x2] (mX3_earth l D cI mo z1 z2 z3 z4 z5 z6 z7 z8 z9 (nI N) hs cs mf ml M td lf laid piled prs thr x1 x2 N rfl hN1 hN2 (m_hsp hN5 hT) (m_hch hN5 hT) (m_hrt hN1 hN5 hT)) ⟨hx, hb, hml, hown, hts⟩ (cwV 2 hts gL_law_X3_earth rfl rfl rfl (by decide +kernel) ⟨Nat.le_of_ble_eq_true rfl, Nat.le_of_ble_eq_true rfl⟩) pq_bl0 (fun _ _ _ => trivial) (hK.sub [0] rfl) hP hD hS hA rfl (by decide) rfl (by decide) (by decide) rfl rfl rfl rfl hl.1 rfl (Nat.le_of_ble_eq_true rfl) dL_law_392 ⟨by show n + 3 + 0 ≤ 601024; omega, by show sl + 18 + 0 ≤ 7293034; omega⟩ (fun v w1 H locs hq hP hD hS hz => ?_)
    rcases hq with ⟨hm, rfl, rfl⟩ | ⟨kf2, kt2, hxf2, hxt2, hft2, htN2, rfl, ⟨td2, rfl⟩, hm0⟩
    · exact (hm (by rw [hNN] at hc0; exact hc0)).elim
    · skip
      have hP : va_P D vwCl (lwW o (vp_updL fo 0 r.toInt64) q h a0 a1 a2 a3 a4 a5 g b0 b1 mo z1 z2 z3 z4 z5 z6 z7 z8 z9 cI cL fi la ((bSumFrom fi la (nI kf) (nI kt) 7 (bBegin B) 1).2) G pr (nI N) hs cs mf ml ((mSum mf ml (nI kf2) (nI kt2) 7 (0, bBegin M) 1).2) td2 0 laid piled prs 0) H := hP
      have hD : va_D (fun q : Nat => s.heap.size ≤ q) (lwW o (vp_updL fo 0 r.toInt64) q h a0 a1 a2 a3 a4 a5 g b0 b1 mo z1 z2 z3 z4 z5 z6 z7 z8 z9 cI cL fi la ((bSumFrom fi la (nI kf) (nI kt) 7 (bBegin B) 1).2) G pr (nI N) hs cs mf ml ((mSum mf ml (nI kf2) (nI kt2) 7 (0, bBegin M) 1).2) td2 0 laid piled prs 0) := hD
      refine W.eq (g2 := F0 m 395 ls [.int ((mSum mf ml (nI kf2) (nI kt2) 7 (0, bBegin M) 1).1)]) rfl ?_
      refine lv_istore (lv' := [(6, .int ((mSum mf ml (nI kf2) (nI kt2) 7 (0, bBegin M) 1).1)), (5, .int 0), (4, .int (nI i)), (3, .ref o), (2, .ref mo), (1, .ref q), (0, .ref b)]) hx hb dL_law_395 hl (by decide) rfl (fun ls hl => ?_)
      refine lv_aload_n hx hb dL_law_397 rfl (lv_at hl 4 rfl) ?_
      refine pq_callV (rest := []) (wr := (o, .inl (cL, 1, .inr (.inl (vp_updL fo 0 r.toInt64)))) :: ppW q h a0 a1 a2 a3 a4 a5 g b0 b1 cI fi la ((bSumFrom fi la (nI kf) (nI kt) 7 (bBegin B) 1).2) G pr) (own := RL) (nL := 9) (q0 := 12) (ci := 3) [12, 13, 14, 15, 16, 17, 18, 19, 20, 21] [0, 1, 2, 3, 4, 5, 6, 7, 8, 9, 10, 11] [] (mX3_thrown l D cI mo z1 z2 z3 z4 z5 z6 z7 z8 z9 (nI N) hs cs mf ml ((mSum mf ml (nI kf2) (nI kt2) 7 (0, bBegin M) 1).2) td2 0 laid piled prs 0) ⟨hx, hb, hml, hown, hts⟩ (cwV 0 hts gL_law_X3_thrown rfl rfl rfl (by decide +kernel) ⟨Nat.le_of_ble_eq_true rfl, Nat.le_of_ble_eq_true rfl⟩) pq_bl0 (fun _ _ _ => trivial) (hK.sub [0] rfl) hP hD hS hA rfl (by decide) rfl (by decide) (by decide) rfl rfl rfl rfl hl.1 rfl (Nat.le_of_ble_eq_true rfl) dL_law_398 ⟨by show n + 3 + 0 + 0 ≤ 601024; omega, by show sl + 18 + 0 + 0 ≤ 7293034; omega⟩ (fun v w1 H locs hq hP hD hS hz => ?_)
      obtain ⟨rfl, rfl⟩ := hq
      have hP : va_P D vwCl (lwW o (vp_updL fo 0 r.toInt64) q h a0 a1 a2 a3 a4 a5 g b0 b1 mo z1 z2 z3 z4 z5 z6 z7 z8 z9 cI cL fi la ((bSumFrom fi la (nI kf) (nI kt) 7 (bBegin B) 1).2) G pr (nI N) hs cs mf ml ((mSum mf ml (nI kf2) (nI kt2) 7 (0, bBegin M) 1).2) td2 0 laid piled prs 0) H := hP
      have hD : va_D (fun q : Nat => s.heap.size ≤ q) (lwW o (vp_updL fo 0 r.toInt64) q h a0 a1 a2 a3 a4 a5 g b0 b1 mo z1 z2 z3 z4 z5 z6 z7 z8 z9 cI cL fi la ((bSumFrom fi la (nI kf) (nI kt) 7 (bBegin B) 1).2) G pr (nI N) hs cs mf ml ((mSum mf ml (nI kf2) (nI kt2) 7 (0, bBegin M) 1).2) td2 0 laid piled prs 0) := hD
      refine W.eq (g2 := F0 m 401 ls [.int 0]) rfl ?_
      refine lv_iload hx hb dL_law_401 (lv_at hl 1 rfl) ?_
      refine lv_icmp_eq (tgt := 408) hx hb dL_law_403 (by decide) (fun _ => ?_) (fun c9 => absurd rfl c9)
      refine lv_iload hx hb dL_law_408 (lv_at hl 1 rfl) ?_
      refine lv_if_ne (tgt := 425) hx hb dL_law_410 (by decide) (fun c9 => absurd rfl c9) (fun _ => ?_)
      refine lv_aload_n hx hb dL_law_413 rfl (lv_at hl 3 rfl) ?_
      refine lv_iconst (v := 0) hx hb dL_law_414 (by decide) ?_
      refine pq_lald hx hb hK hP 0 1 rfl rfl dL_law_415 ?_
      have hkf : kf = kf2 := nI_inj (by omega) (by omega) (hxf.symm.trans hxf2)
      have hkt : kt = kt2 := nI_inj (by omega) (by omega) (hxt.symm.trans hxt2)
      subst hkf
      subst hkt
      obtain ⟨I2, hans0⟩ := iv_sum I hft htN
      have hans := hr.trans hans0.symm
      have hg2 := hg
      have hpr2 := hpr
      rw [updL_0, hans]
      refine lv_iload hx hb dL_law_416 (lv_at hl 0 rfl) ?_
      refine lv_i2l hx hb dL_law_418 rfl ?_
      refine W.lcmp hx hb dL_law_419 ?_
      rw [lg_cmp_s]
      refine lv_if_eq (tgt := 425) hx hb dL_law_420 (by decide) (fun _ => ?_) (fun c9 => absurd rfl c9)
      refine lv_goto (tgt := 1291) hx hb dL_law_425 (by decide) ?_
      refine W.widen (k := n + 6) (n := sl + 36) (by omega) (by omega) ?_
      exact K _ H locs ls ⟨_, _, _, _, _, _, _, _, _, _, _, _, _, _, _, _, _, _, _, rfl, rfl, I2, hg2, hpr2⟩ hP hD hS (lv_sub hl [2, 3, 4, 5, 6] rfl)
  · skip
    have hP : va_P D vwCl (lwW o fo q h a0 a1 a2 a3 a4 a5 g b0 b1 mo z1 z2 z3 z4 z5 z6 z7 z8 z9 cI cL fi la B G pr (nI N) hs cs mf ml M td lf laid piled prs thr) H := hP.sub [10, 11, 12, 13, 14, 15, 16, 17, 18, 19, 20, 21, 0, 1, 2, 3, 4, 5, 6, 7, 8, 9] rfl
    have hD : va_D (fun q : Nat => s.heap.size ≤ q) (lwW o fo q h a0 a1 a2 a3 a4 a5 g b0 b1 mo z1 z2 z3 z4 z5 z6 z7 z8 z9 cI cL fi la B G pr (nI N) hs cs mf ml M td lf laid piled prs thr) := hD.sub [10, 11, 12, 13, 14, 15, 16, 17, 18, 19, 20, 21, 0, 1, 2, 3, 4, 5, 6, 7, 8, 9] (by decide) rfl
    refine lv_istore (lv' := [(5, .int (cSpan G.2.2.1 x1 x2)), (4, .int (nI i)), (3, .ref o), (2, .ref mo), (1, .ref q), (0, .ref b)]) hx hb dL_law_377 hl (by decide) rfl (fun ls hl => ?_)
    refine lv_aload_n hx hb dL_law_379 rfl (lv_at hl 3 rfl) ?_
    refine lv_aload_n hx hb dL_law_380 rfl (lv_at hl 5 rfl) ?_
    refine lv_iload hx hb dL_law_381 (lv_at hl 1 rfl) ?_
    refine lv_iconst (v := 1) hx hb dL_law_383 (by decide) ?_
    refine lv_iadd hx hb dL_law_384 ?_
    refine pq_top (nI (i + 1)) (nI_1 _) ?_
    refine va_sld hx hb hX hbl hbA hS (vp_in_nI (by omega) (by omega)) dL_law_385 ?_
    rw [← hx1]
    refine lv_aload_n hx hb dL_law_386 rfl (lv_at hl 5 rfl) ?_
    refine lv_iload hx hb dL_law_387 (lv_at hl 1 rfl) ?_
    refine lv_iconst (v := 2) hx hb dL_law_389 (by decide) ?_
    refine lv_iadd hx hb dL_law_390 ?_
    refine pq_top (nI (i + 2)) (nI_add _ 2) ?_
    refine va_sld hx hb hX hbl hbA hS (vp_in_nI (by omega) (by omega)) dL_law_391 ?_
    rw [← hx2]
    refine pq_callV (rest := []) (wr := (o, .inl (cL, 1, .inr (.inl fo))) :: ppW q h a0 a1 a2 a3 a4 a5 g b0 b1 cI fi la B G pr) (own := RL) (nL := 9) (q0 := 12) (ci := 3) [12, 13, 14, 15, 16, 17, 18, 19, 20, 21] [0, 1, 2, 3, 4, 5, 6, 7, 8, 9, 10, 11] [.int x1, .int x2] (mX3_earth l D cI mo z1 z2 z3 z4 z5 z6 z7 z8 z9 (nI N) hs cs mf ml M td lf laid piled prs thr x1 x2 N rfl hN1 hN2 (m_hsp hN5 hT) (m_hch hN5 hT) (m_hrt hN1 hN5 hT)) ⟨hx, hb, hml, hown, hts⟩ (cwV 2 hts gL_law_X3_earth rfl rfl rfl (by decide +kernel) ⟨Nat.le_of_ble_eq_true rfl, Nat.le_of_ble_eq_true rfl⟩) pq_bl0 (fun _ _ _ => trivial) (hK.sub [0] rfl) hP hD hS hA rfl (by decide) rfl (by decide) (by decide) rfl rfl rfl rfl hl.1 rfl (Nat.le_of_ble_eq_true rfl) dL_law_392 ⟨by show n + 3 + 0 ≤ 601024; omega, by show sl + 18 + 0 ≤ 7293034; omega⟩ (fun v w1 H locs hq hP hD hS hz => ?_)
    rcases hq with ⟨hm, rfl, rfl⟩ | ⟨kf2, kt2, hxf2, hxt2, hft2, htN2, rfl, ⟨td2, rfl⟩, hm0⟩
    · skip
      have hP : va_P D vwCl (lwW o fo q h a0 a1 a2 a3 a4 a5 g b0 b1 mo z1 z2 z3 z4 z5 z6 z7 z8 z9 cI cL fi la B G pr (nI N) hs cs mf ml M td lf laid piled prs (cSpan (nI N) x1 x2)) H := hP
      have hD : va_D (fun q : Nat => s.heap.size ≤ q) (lwW o fo q h a0 a1 a2 a3 a4 a5 g b0 b1 mo z1 z2 z3 z4 z5 z6 z7 z8 z9 cI cL fi la B G pr (nI N) hs cs mf ml M td lf laid piled prs (cSpan (nI N) x1 x2)) := hD
      refine W.eq (g2 := F0 m 395 ls [.int 0]) rfl ?_
      refine lv_istore (lv' := [(6, .int 0), (5, .int (cSpan G.2.2.1 x1 x2)), (4, .int (nI i)), (3, .ref o), (2, .ref mo), (1, .ref q), (0, .ref b)]) hx hb dL_law_395 hl (by decide) rfl (fun ls hl => ?_)
      refine lv_aload_n hx hb dL_law_397 rfl (lv_at hl 4 rfl) ?_
      refine pq_callV (rest := []) (wr := (o, .inl (cL, 1, .inr (.inl fo))) :: ppW q h a0 a1 a2 a3 a4 a5 g b0 b1 cI fi la B G pr) (own := RL) (nL := 9) (q0 := 12) (ci := 3) [12, 13, 14, 15, 16, 17, 18, 19, 20, 21] [0, 1, 2, 3, 4, 5, 6, 7, 8, 9, 10, 11] [] (mX3_thrown l D cI mo z1 z2 z3 z4 z5 z6 z7 z8 z9 (nI N) hs cs mf ml M td lf laid piled prs (cSpan (nI N) x1 x2)) ⟨hx, hb, hml, hown, hts⟩ (cwV 0 hts gL_law_X3_thrown rfl rfl rfl (by decide +kernel) ⟨Nat.le_of_ble_eq_true rfl, Nat.le_of_ble_eq_true rfl⟩) pq_bl0 (fun _ _ _ => trivial) (hK.sub [0] rfl) hP hD hS hA rfl (by decide) rfl (by decide) (by decide) rfl rfl rfl rfl hl.1 rfl (Nat.le_of_ble_eq_true rfl) dL_law_398 ⟨by show n + 3 + 0 + 0 ≤ 601024; omega, by show sl + 18 + 0 + 0 ≤ 7293034; omega⟩ (fun v w1 H locs hq hP hD hS hz => ?_)
      obtain ⟨rfl, rfl⟩ := hq
      have hP : va_P D vwCl (lwW o fo q h a0 a1 a2 a3 a4 a5 g b0 b1 mo z1 z2 z3 z4 z5 z6 z7 z8 z9 cI cL fi la B G pr (nI N) hs cs mf ml M td lf laid piled prs (cSpan (nI N) x1 x2)) H := hP
      have hD : va_D (fun q : Nat => s.heap.size ≤ q) (lwW o fo q h a0 a1 a2 a3 a4 a5 g b0 b1 mo z1 z2 z3 z4 z5 z6 z7 z8 z9 cI cL fi la B G pr (nI N) hs cs mf ml M td lf laid piled prs (cSpan (nI N) x1 x2)) := hD
      refine W.eq (g2 := F0 m 401 ls [.int (cSpan (nI N) x1 x2)]) rfl ?_
      refine lv_iload hx hb dL_law_401 (lv_at hl 1 rfl) ?_
      refine lv_icmp_eq (tgt := 408) hx hb dL_law_403 (by decide) (fun _ => ?_) (fun c9 => absurd (by rw [hNN]) c9)
      refine lv_iload hx hb dL_law_408 (lv_at hl 1 rfl) ?_
      refine lv_if_ne (tgt := 425) hx hb dL_law_410 (by decide) (fun _ => ?_) (fun c9 => absurd c9 hne)
      refine lv_goto (tgt := 1291) hx hb dL_law_425 (by decide) ?_
      refine W.widen (k := n + 6) (n := sl + 36) (by omega) (by omega) ?_
      exact K _ H locs ls ⟨_, _, _, _, _, _, _, _, _, _, _, _, _, _, _, _, _, _, _, rfl, rfl, I, hg, hpr⟩ hP hD hS (lv_sub hl [2, 3, 4, 5, 6] rfl)
    · exact (hne (by rw [hNN]; exact hm0)).elim

set_option maxHeartbeats 4000000 in
set_option maxRecDepth 100000 in
theorem law_top {p : Program} {l : Launch} {ev : Env} {s : State} {m : MethodId} {b L : Nat} {xs : Nat → Int32} {below : List Frame} {meth : Method} {cd : Code} {Q : State → Prop} {o q h a0 a1 a2 a3 a4 a5 g b0 b1 mo z1 z2 z3 z4 z5 z6 z7 z8 z9 : Nat} {D : va_G} {cI cL : ClassId} {i n sl : Nat} (C : LC p l s m meth cd b L xs D cI cL) (hi : i + 4 ≤ L) (hn : n + 6 ≤ 600000) (hsl : sl + 36 ≤ 7000000) (K : LK p l ev s m b below meth cd Q o q h a0 a1 a2 a3 a4 a5 g b0 b1 mo z1 z2 z3 z4 z5 z6 z7 z8 z9 D cI cL i 1291 (n + 6) (sl + 36)) : LK p l ev s m b below meth cd Q o q h a0 a1 a2 a3 a4 a5 g b0 b1 mo z1 z2 z3 z4 z5 z6 z7 z8 z9 D cI cL i 496 n sl := by
  obtain ⟨hx, hb, hml, hown, hts, hX, hbl, hK, hE, hfl, hL⟩ := C
  have hA : ∀ q : Nat, s.heap.size ≤ q → (fun q : Nat => s.heap.size ≤ q) q := fun _ h => h
  have hbA : ¬ (fun q : Nat => s.heap.size ≤ q) b := Nat.not_le.mpr hbl
  rintro w H locs ls ⟨fo, fi, la, B, G, pr, N, hs, cs, mf, ml, M, td, lf, laid, piled, prs, thr, col, rfl, rfl, I, hg, hpr⟩ hP hD hS hl
  have hN1 := I.1
  have hN2 := I.2.1
  have hNN : G.2.2.1 = nI N := I.2.2.2.2.2.2.2.2
  have hT := I.2.2.2.1
  have hN5 : N < 65 := by omega
  obtain ⟨x1, hx1⟩ : ∃ z, z = xs (nI (i + 1)).toNatClampNeg := ⟨_, rfl⟩
  obtain ⟨x2, hx2⟩ : ∃ z, z = xs (nI (i + 2)).toNatClampNeg := ⟨_, rfl⟩
  refine lv_aload_n hx hb dL_law_496 rfl (lv_at hl 3 rfl) ?_
  refine lv_aload_n hx hb dL_law_497 rfl (lv_at hl 4 rfl) ?_
  refine lv_iload hx hb dL_law_498 (lv_at hl 0 rfl) ?_
  refine lv_iconst (v := 1) hx hb dL_law_500 (by decide) ?_
  refine lv_iadd hx hb dL_law_501 ?_
  refine pq_top (nI (i + 1)) (nI_1 _) ?_
  refine va_sld hx hb hX hbl hbA hS (vp_in_nI (by omega) (by omega)) dL_law_502 ?_
  rw [← hx1]
  refine lv_aload_n hx hb dL_law_503 rfl (lv_at hl 4 rfl) ?_
  refine lv_iload hx hb dL_law_504 (lv_at hl 0 rfl) ?_
  refine lv_iconst (v := 2) hx hb dL_law_506 (by decide) ?_
  refine lv_iadd hx hb dL_law_507 ?_
  refine pq_top (nI (i + 2)) (nI_add _ 2) ?_
  refine va_sld hx hb hX hbl hbA hS (vp_in_nI (by omega) (by omega)) dL_law_508 ?_
  rw [← hx2]
  refine lv_aload_n hx hb dL_law_509 rfl (lv_at hl 1 rfl) ?_
  refine pq_callSW (wr := mdW mo z1 z2 z3 z4 z5 z6 z7 z8 z9 cI (nI N) hs cs mf ml M td lf laid piled prs thr) (own := RL) (nL := 9) [0, 1, 2, 3, 4, 5, 6, 7, 8, 9, 10, 11] [12, 13, 14, 15, 16, 17, 18, 19, 20, 21] [.ref q, .int x1, .int x2, .ref o] (mL_top l D cI cL o fo q h a0 a1 a2 a3 a4 a5 g b0 b1 fi la B G pr N hfl hNN hN1 hN2 x1 x2) ⟨hx, hb, hml, hown, hts⟩ (vx_cwSW 4 hts gL_law_L_top rfl rfl rfl (by decide +kernel) ⟨Nat.le_of_ble_eq_true rfl, Nat.le_of_ble_eq_true rfl⟩) pq_blL (hE.call hD hS hA [0, 1, 2, 3, 4, 5, 6, 7, 8, 9, 10, 11] rfl) hK hP hD hS hA rfl (by decide) rfl (by decide) (by decide) rfl hl.1 rfl (Nat.le_of_ble_eq_true rfl) dL_law_510 ⟨by show n + 3 ≤ 601024; omega, by show sl + 18 ≤ 7293034; omega⟩ (fun v w1 H locs hq hP hD hS hz => ?_)
  rcases hq with ⟨r, wc, hpost, rfl, rfl⟩ | ⟨hne, rfl, rfl⟩
  · obtain ⟨kf, kt, hxf, hxt, hft, htN, hv, rfl, hc0⟩ := hpost
    have hr := vi_eq hv
    have hP : va_P D vwCl (lwW o (vp_updL fo 0 r.toInt64) q h a0 a1 a2 a3 a4 a5 g b0 b1 mo z1 z2 z3 z4 z5 z6 z7 z8 z9 cI cL fi la ((bTopFrom fi la (nI kf) (nI kt) 7 (bBegin B) 1).2) G pr (nI N) hs cs mf ml M td lf laid piled prs thr) H := hP.sub [10, 11, 12, 13, 14, 15, 16, 17, 18, 19, 20, 21, 0, 1, 2, 3, 4, 5, 6, 7, 8, 9] rfl
    have hD : va_D (fun q : Nat => s.heap.size ≤ q) (lwW o (vp_updL fo 0 r.toInt64) q h a0 a1 a2 a3 a4 a5 g b0 b1 mo z1 z2 z3 z4 z5 z6 z7 z8 z9 cI cL fi la ((bTopFrom fi la (nI kf) (nI kt) 7 (bBegin B) 1).2) G pr (nI N) hs cs mf ml M td lf laid piled prs thr) := hD.sub [10, 11, 12, 13, 14, 15, 16, 17, 18, 19, 20, 21, 0, 1, 2, 3, 4, 5, 6, 7, 8, 9] (by decide) rfl
    refine lv_istore (lv' := [(5, .int 0), (4, .int (nI i)), (3, .ref o), (2, .ref mo), (1, .ref q), (0, .ref b)]) hx hb dL_law_513 hl (by decide) rfl (fun ls hl => ?_)
    refine lv_aload_n hx hb dL_law_515 rfl (lv_at hl 3 rfl) ?_
    refine lv_aload_n hx hb dL_law_516 rfl (lv_at hl 5 rfl) ?_
    refine lv_iload hx hb dL_law_517 (lv_at hl 1 rfl) ?_
    refine lv_iconst (v := 1) hx hb dL_law_519 (by decide) ?_
    refine lv_iadd hx hb dL_law_520 ?_
    refine pq_top (nI (i + 1)) (nI_1 _) ?_
    refine va_sld hx hb hX hbl hbA hS (vp_in_nI (by omega) (by omega)) dL_law_521 ?_
    rw [← hx1]
    refine lv_aload_n hx hb dL_law_522 rfl (lv_at hl 5 rfl) ?_
    refine lv_iload hx hb dL_law_523 (lv_at hl 1 rfl) ?_
    refine lv_iconst (v := 2) hx hb dL_law_525 (by decide) ?_
    refine lv_iadd hx hb dL_law_526 ?_
    refine pq_top (nI (i + 2)) (nI_add _ 2) ?_
    refine va_sld hx hb hX hbl hbA hS (vp_in_nI (by omega) (by omega)) dL_law_527 ?_
    rw [← hx2]
    refine pq_callV (rest := []) (wr := (o, .inl (cL, 1, .inr (.inl (vp_updL fo 0 r.toInt64)))) :: ppW q h a0 a1 a2 a3 a4 a5 g b0 b1 cI fi la ((bTopFrom fi la (nI kf) (nI kt) 7 (bBegin B) 1).2) G pr) (own := RL) (nL := 9) (q0 := 12) (ci := 3) [12, 13, 14, 15, 16, 17, 18, 19, 20, 21] [0, 1, 2, 3, 4, 5, 6, 7, 8, 9, 10, 11] [.int x1, .int x2] (mX3_top l D cI mo z1 z2 z3 z4 z5 z6 z7 z8 z9 (nI N) hs cs mf ml M td lf laid piled prs thr x1 x2 N rfl hN1 hN2 (m_hsp hN5 hT) (m_hch hN5 hT) (m_hrt hN1 hN5 hT)) ⟨hx, hb, hml, hown, hts⟩ (cwV 2 hts gL_law_X3_top rfl rfl rfl (by decide +kernel) ⟨Nat.le_of_ble_eq_true rfl, Nat.le_of_ble_eq_true rfl⟩) pq_bl0 (fun _ _ _ => trivial) (hK.sub [0] rfl) hP hD hS hA rfl (by decide) rfl (by decide) (by decide) rfl rfl rfl rfl hl.1 rfl (Nat.le_of_ble_eq_true rfl) dL_law_528 ⟨by show n + 3 + 0 ≤ 601024; omega, by show sl + 18 + 0 ≤ 7293034; omega⟩ (fun v w1 H locs hq hP hD hS hz => ?_)
    rcases hq with ⟨hm, rfl, rfl⟩ | ⟨kf2, kt2, hxf2, hxt2, hft2, htN2, rfl, ⟨td2, rfl⟩, hm0⟩
    · exact (hm (by rw [hNN] at hc0; exact hc0)).elim
    · skip
      have hP : va_P D vwCl (lwW o (vp_updL fo 0 r.toInt64) q h a0 a1 a2 a3 a4 a5 g b0 b1 mo z1 z2 z3 z4 z5 z6 z7 z8 z9 cI cL fi la ((bTopFrom fi la (nI kf) (nI kt) 7 (bBegin B) 1).2) G pr (nI N) hs cs mf ml ((mGrt mf ml (nI kf2) (nI kt2) 7 (0, bBegin M) 1).2) td2 0 laid piled prs 0) H := hP
      have hD : va_D (fun q : Nat => s.heap.size ≤ q) (lwW o (vp_updL fo 0 r.toInt64) q h a0 a1 a2 a3 a4 a5 g b0 b1 mo z1 z2 z3 z4 z5 z6 z7 z8 z9 cI cL fi la ((bTopFrom fi la (nI kf) (nI kt) 7 (bBegin B) 1).2) G pr (nI N) hs cs mf ml ((mGrt mf ml (nI kf2) (nI kt2) 7 (0, bBegin M) 1).2) td2 0 laid piled prs 0) := hD
      refine W.eq (g2 := F0 m 531 ls [.int ((mGrt mf ml (nI kf2) (nI kt2) 7 (0, bBegin M) 1).1)]) rfl ?_
      refine lv_istore (lv' := [(6, .int ((mGrt mf ml (nI kf2) (nI kt2) 7 (0, bBegin M) 1).1)), (5, .int 0), (4, .int (nI i)), (3, .ref o), (2, .ref mo), (1, .ref q), (0, .ref b)]) hx hb dL_law_531 hl (by decide) rfl (fun ls hl => ?_)
      refine lv_aload_n hx hb dL_law_533 rfl (lv_at hl 4 rfl) ?_
      refine pq_callV (rest := []) (wr := (o, .inl (cL, 1, .inr (.inl (vp_updL fo 0 r.toInt64)))) :: ppW q h a0 a1 a2 a3 a4 a5 g b0 b1 cI fi la ((bTopFrom fi la (nI kf) (nI kt) 7 (bBegin B) 1).2) G pr) (own := RL) (nL := 9) (q0 := 12) (ci := 3) [12, 13, 14, 15, 16, 17, 18, 19, 20, 21] [0, 1, 2, 3, 4, 5, 6, 7, 8, 9, 10, 11] [] (mX3_thrown l D cI mo z1 z2 z3 z4 z5 z6 z7 z8 z9 (nI N) hs cs mf ml ((mGrt mf ml (nI kf2) (nI kt2) 7 (0, bBegin M) 1).2) td2 0 laid piled prs 0) ⟨hx, hb, hml, hown, hts⟩ (cwV 0 hts gL_law_X3_thrown rfl rfl rfl (by decide +kernel) ⟨Nat.le_of_ble_eq_true rfl, Nat.le_of_ble_eq_true rfl⟩) pq_bl0 (fun _ _ _ => trivial) (hK.sub [0] rfl) hP hD hS hA rfl (by decide) rfl (by decide) (by decide) rfl rfl rfl rfl hl.1 rfl (Nat.le_of_ble_eq_true rfl) dL_law_534 ⟨by show n + 3 + 0 + 0 ≤ 601024; omega, by show sl + 18 + 0 + 0 ≤ 7293034; omega⟩ (fun v w1 H locs hq hP hD hS hz => ?_)
      obtain ⟨rfl, rfl⟩ := hq
      have hP : va_P D vwCl (lwW o (vp_updL fo 0 r.toInt64) q h a0 a1 a2 a3 a4 a5 g b0 b1 mo z1 z2 z3 z4 z5 z6 z7 z8 z9 cI cL fi la ((bTopFrom fi la (nI kf) (nI kt) 7 (bBegin B) 1).2) G pr (nI N) hs cs mf ml ((mGrt mf ml (nI kf2) (nI kt2) 7 (0, bBegin M) 1).2) td2 0 laid piled prs 0) H := hP
      have hD : va_D (fun q : Nat => s.heap.size ≤ q) (lwW o (vp_updL fo 0 r.toInt64) q h a0 a1 a2 a3 a4 a5 g b0 b1 mo z1 z2 z3 z4 z5 z6 z7 z8 z9 cI cL fi la ((bTopFrom fi la (nI kf) (nI kt) 7 (bBegin B) 1).2) G pr (nI N) hs cs mf ml ((mGrt mf ml (nI kf2) (nI kt2) 7 (0, bBegin M) 1).2) td2 0 laid piled prs 0) := hD
      refine W.eq (g2 := F0 m 537 ls [.int 0]) rfl ?_
      refine lv_iload hx hb dL_law_537 (lv_at hl 1 rfl) ?_
      refine lv_icmp_eq (tgt := 544) hx hb dL_law_539 (by decide) (fun _ => ?_) (fun c9 => absurd rfl c9)
      refine lv_iload hx hb dL_law_544 (lv_at hl 1 rfl) ?_
      refine lv_if_ne (tgt := 561) hx hb dL_law_546 (by decide) (fun c9 => absurd rfl c9) (fun _ => ?_)
      refine lv_aload_n hx hb dL_law_549 rfl (lv_at hl 3 rfl) ?_
      refine lv_iconst (v := 0) hx hb dL_law_550 (by decide) ?_
      refine pq_lald hx hb hK hP 0 1 rfl rfl dL_law_551 ?_
      have hkf : kf = kf2 := nI_inj (by omega) (by omega) (hxf.symm.trans hxf2)
      have hkt : kt = kt2 := nI_inj (by omega) (by omega) (hxt.symm.trans hxt2)
      subst hkf
      subst hkt
      obtain ⟨I2, hans0⟩ := iv_top I hft htN
      have hans := hr.trans hans0.symm
      have hg2 := hg
      have hpr2 := hpr
      rw [updL_0, hans]
      refine lv_iload hx hb dL_law_552 (lv_at hl 0 rfl) ?_
      refine lv_i2l hx hb dL_law_554 rfl ?_
      refine W.lcmp hx hb dL_law_555 ?_
      rw [lg_cmp_s]
      refine lv_if_eq (tgt := 561) hx hb dL_law_556 (by decide) (fun _ => ?_) (fun c9 => absurd rfl c9)
      refine lv_goto (tgt := 1291) hx hb dL_law_561 (by decide) ?_
      refine W.widen (k := n + 6) (n := sl + 36) (by omega) (by omega) ?_
      exact K _ H locs ls ⟨_, _, _, _, _, _, _, _, _, _, _, _, _, _, _, _, _, _, _, rfl, rfl, I2, hg2, hpr2⟩ hP hD hS (lv_sub hl [2, 3, 4, 5, 6] rfl)
  · skip
    have hP : va_P D vwCl (lwW o fo q h a0 a1 a2 a3 a4 a5 g b0 b1 mo z1 z2 z3 z4 z5 z6 z7 z8 z9 cI cL fi la B G pr (nI N) hs cs mf ml M td lf laid piled prs thr) H := hP.sub [10, 11, 12, 13, 14, 15, 16, 17, 18, 19, 20, 21, 0, 1, 2, 3, 4, 5, 6, 7, 8, 9] rfl
    have hD : va_D (fun q : Nat => s.heap.size ≤ q) (lwW o fo q h a0 a1 a2 a3 a4 a5 g b0 b1 mo z1 z2 z3 z4 z5 z6 z7 z8 z9 cI cL fi la B G pr (nI N) hs cs mf ml M td lf laid piled prs thr) := hD.sub [10, 11, 12, 13, 14, 15, 16, 17, 18, 19, 20, 21, 0, 1, 2, 3, 4, 5, 6, 7, 8, 9] (by decide) rfl
    refine lv_istore (lv' := [(5, .int (cSpan G.2.2.1 x1 x2)), (4, .int (nI i)), (3, .ref o), (2, .ref mo), (1, .ref q), (0, .ref b)]) hx hb dL_law_513 hl (by decide) rfl (fun ls hl => ?_)
    refine lv_aload_n hx hb dL_law_515 rfl (lv_at hl 3 rfl) ?_
    refine lv_aload_n hx hb dL_law_516 rfl (lv_at hl 5 rfl) ?_
    refine lv_iload hx hb dL_law_517 (lv_at hl 1 rfl) ?_
    refine lv_iconst (v := 1) hx hb dL_law_519 (by decide) ?_
    refine lv_iadd hx hb dL_law_520 ?_
    refine pq_top (nI (i + 1)) (nI_1 _) ?_
    refine va_sld hx hb hX hbl hbA hS (vp_in_nI (by omega) (by omega)) dL_law_521 ?_
    rw [← hx1]
    refine lv_aload_n hx hb dL_law_522 rfl (lv_at hl 5 rfl) ?_
    refine lv_iload hx hb dL_law_523 (lv_at hl 1 rfl) ?_
    refine lv_iconst (v := 2) hx hb dL_law_525 (by decide) ?_
    refine lv_iadd hx hb dL_law_526 ?_
    refine pq_top (nI (i + 2)) (nI_add _ 2) ?_
    refine va_sld hx hb hX hbl hbA hS (vp_in_nI (by omega) (by omega)) dL_law_527 ?_
    rw [← hx2]
    refine pq_callV (rest := []) (wr := (o, .inl (cL, 1, .inr (.inl fo))) :: ppW q h a0 a1 a2 a3 a4 a5 g b0 b1 cI fi la B G pr) (own := RL) (nL := 9) (q0 := 12) (ci := 3) [12, 13, 14, 15, 16, 17, 18, 19, 20, 21] [0, 1, 2, 3, 4, 5, 6, 7, 8, 9, 10, 11] [.int x1, .int x2] (mX3_top l D cI mo z1 z2 z3 z4 z5 z6 z7 z8 z9 (nI N) hs cs mf ml M td lf laid piled prs thr x1 x2 N rfl hN1 hN2 (m_hsp hN5 hT) (m_hch hN5 hT) (m_hrt hN1 hN5 hT)) ⟨hx, hb, hml, hown, hts⟩ (cwV 2 hts gL_law_X3_top rfl rfl rfl (by decide +kernel) ⟨Nat.le_of_ble_eq_true rfl, Nat.le_of_ble_eq_true rfl⟩) pq_bl0 (fun _ _ _ => trivial) (hK.sub [0] rfl) hP hD hS hA rfl (by decide) rfl (by decide) (by decide) rfl rfl rfl rfl hl.1 rfl (Nat.le_of_ble_eq_true rfl) dL_law_528 ⟨by show n + 3 + 0 ≤ 601024; omega, by show sl + 18 + 0 ≤ 7293034; omega⟩ (fun v w1 H locs hq hP hD hS hz => ?_)
    rcases hq with ⟨hm, rfl, rfl⟩ | ⟨kf2, kt2, hxf2, hxt2, hft2, htN2, rfl, ⟨td2, rfl⟩, hm0⟩
    · skip
      have hP : va_P D vwCl (lwW o fo q h a0 a1 a2 a3 a4 a5 g b0 b1 mo z1 z2 z3 z4 z5 z6 z7 z8 z9 cI cL fi la B G pr (nI N) hs cs mf ml M td lf laid piled prs (cSpan (nI N) x1 x2)) H := hP
      have hD : va_D (fun q : Nat => s.heap.size ≤ q) (lwW o fo q h a0 a1 a2 a3 a4 a5 g b0 b1 mo z1 z2 z3 z4 z5 z6 z7 z8 z9 cI cL fi la B G pr (nI N) hs cs mf ml M td lf laid piled prs (cSpan (nI N) x1 x2)) := hD
      refine W.eq (g2 := F0 m 531 ls [.int 0]) rfl ?_
      refine lv_istore (lv' := [(6, .int 0), (5, .int (cSpan G.2.2.1 x1 x2)), (4, .int (nI i)), (3, .ref o), (2, .ref mo), (1, .ref q), (0, .ref b)]) hx hb dL_law_531 hl (by decide) rfl (fun ls hl => ?_)
      refine lv_aload_n hx hb dL_law_533 rfl (lv_at hl 4 rfl) ?_
      refine pq_callV (rest := []) (wr := (o, .inl (cL, 1, .inr (.inl fo))) :: ppW q h a0 a1 a2 a3 a4 a5 g b0 b1 cI fi la B G pr) (own := RL) (nL := 9) (q0 := 12) (ci := 3) [12, 13, 14, 15, 16, 17, 18, 19, 20, 21] [0, 1, 2, 3, 4, 5, 6, 7, 8, 9, 10, 11] [] (mX3_thrown l D cI mo z1 z2 z3 z4 z5 z6 z7 z8 z9 (nI N) hs cs mf ml M td lf laid piled prs (cSpan (nI N) x1 x2)) ⟨hx, hb, hml, hown, hts⟩ (cwV 0 hts gL_law_X3_thrown rfl rfl rfl (by decide +kernel) ⟨Nat.le_of_ble_eq_true rfl, Nat.le_of_ble_eq_true rfl⟩) pq_bl0 (fun _ _ _ => trivial) (hK.sub [0] rfl) hP hD hS hA rfl (by decide) rfl (by decide) (by decide) rfl rfl rfl rfl hl.1 rfl (Nat.le_of_ble_eq_true rfl) dL_law_534 ⟨by show n + 3 + 0 + 0 ≤ 601024; omega, by show sl + 18 + 0 + 0 ≤ 7293034; omega⟩ (fun v w1 H locs hq hP hD hS hz => ?_)
      obtain ⟨rfl, rfl⟩ := hq
      have hP : va_P D vwCl (lwW o fo q h a0 a1 a2 a3 a4 a5 g b0 b1 mo z1 z2 z3 z4 z5 z6 z7 z8 z9 cI cL fi la B G pr (nI N) hs cs mf ml M td lf laid piled prs (cSpan (nI N) x1 x2)) H := hP
      have hD : va_D (fun q : Nat => s.heap.size ≤ q) (lwW o fo q h a0 a1 a2 a3 a4 a5 g b0 b1 mo z1 z2 z3 z4 z5 z6 z7 z8 z9 cI cL fi la B G pr (nI N) hs cs mf ml M td lf laid piled prs (cSpan (nI N) x1 x2)) := hD
      refine W.eq (g2 := F0 m 537 ls [.int (cSpan (nI N) x1 x2)]) rfl ?_
      refine lv_iload hx hb dL_law_537 (lv_at hl 1 rfl) ?_
      refine lv_icmp_eq (tgt := 544) hx hb dL_law_539 (by decide) (fun _ => ?_) (fun c9 => absurd (by rw [hNN]) c9)
      refine lv_iload hx hb dL_law_544 (lv_at hl 1 rfl) ?_
      refine lv_if_ne (tgt := 561) hx hb dL_law_546 (by decide) (fun _ => ?_) (fun c9 => absurd c9 hne)
      refine lv_goto (tgt := 1291) hx hb dL_law_561 (by decide) ?_
      refine W.widen (k := n + 6) (n := sl + 36) (by omega) (by omega) ?_
      exact K _ H locs ls ⟨_, _, _, _, _, _, _, _, _, _, _, _, _, _, _, _, _, _, _, rfl, rfl, I, hg, hpr⟩ hP hD hS (lv_sub hl [2, 3, 4, 5, 6] rfl)
    · exact (hne (by rw [hNN]; exact hm0)).elim

set_option maxHeartbeats 4000000 in
set_option maxRecDepth 100000 in
theorem law_earthByColumns {p : Program} {l : Launch} {ev : Env} {s : State} {m : MethodId} {b L : Nat} {xs : Nat → Int32} {below : List Frame} {meth : Method} {cd : Code} {Q : State → Prop} {o q h a0 a1 a2 a3 a4 a5 g b0 b1 mo z1 z2 z3 z4 z5 z6 z7 z8 z9 : Nat} {D : va_G} {cI cL : ClassId} {i n sl : Nat} (C : LC p l s m meth cd b L xs D cI cL) (hi : i + 4 ≤ L) (hn : n + 6 ≤ 600000) (hsl : sl + 36 ≤ 7000000) (K : LK p l ev s m b below meth cd Q o q h a0 a1 a2 a3 a4 a5 g b0 b1 mo z1 z2 z3 z4 z5 z6 z7 z8 z9 D cI cL i 1291 (n + 6) (sl + 36)) : LK p l ev s m b below meth cd Q o q h a0 a1 a2 a3 a4 a5 g b0 b1 mo z1 z2 z3 z4 z5 z6 z7 z8 z9 D cI cL i 428 n sl := by
  obtain ⟨hx, hb, hml, hown, hts, hX, hbl, hK, hE, hfl, hL⟩ := C
  have hA : ∀ q : Nat, s.heap.size ≤ q → (fun q : Nat => s.heap.size ≤ q) q := fun _ h => h
  have hbA : ¬ (fun q : Nat => s.heap.size ≤ q) b := Nat.not_le.mpr hbl
  rintro w H locs ls ⟨fo, fi, la, B, G, pr, N, hs, cs, mf, ml, M, td, lf, laid, piled, prs, thr, col, rfl, rfl, I, hg, hpr⟩ hP hD hS hl
  have hN1 := I.1
  have hN2 := I.2.1
  have hNN : G.2.2.1 = nI N := I.2.2.2.2.2.2.2.2
  have hT := I.2.2.2.1
  have hN5 : N < 65 := by omega
  obtain ⟨x1, hx1⟩ : ∃ z, z = xs (nI (i + 1)).toNatClampNeg := ⟨_, rfl⟩
  obtain ⟨x2, hx2⟩ : ∃ z, z = xs (nI (i + 2)).toNatClampNeg := ⟨_, rfl⟩
  refine lv_aload_n hx hb dL_law_428 rfl (lv_at hl 3 rfl) ?_
  refine lv_aload_n hx hb dL_law_429 rfl (lv_at hl 4 rfl) ?_
  refine lv_iload hx hb dL_law_430 (lv_at hl 0 rfl) ?_
  refine lv_iconst (v := 1) hx hb dL_law_432 (by decide) ?_
  refine lv_iadd hx hb dL_law_433 ?_
  refine pq_top (nI (i + 1)) (nI_1 _) ?_
  refine va_sld hx hb hX hbl hbA hS (vp_in_nI (by omega) (by omega)) dL_law_434 ?_
  rw [← hx1]
  refine lv_aload_n hx hb dL_law_435 rfl (lv_at hl 4 rfl) ?_
  refine lv_iload hx hb dL_law_436 (lv_at hl 0 rfl) ?_
  refine lv_iconst (v := 2) hx hb dL_law_438 (by decide) ?_
  refine lv_iadd hx hb dL_law_439 ?_
  refine pq_top (nI (i + 2)) (nI_add _ 2) ?_
  refine va_sld hx hb hX hbl hbA hS (vp_in_nI (by omega) (by omega)) dL_law_440 ?_
  rw [← hx2]
  refine lv_aload_n hx hb dL_law_441 rfl (lv_at hl 1 rfl) ?_
  refine pq_callSW (wr := mdW mo z1 z2 z3 z4 z5 z6 z7 z8 z9 cI (nI N) hs cs mf ml M td lf laid piled prs thr) (own := RL) (nL := 9) [0, 1, 2, 3, 4, 5, 6, 7, 8, 9, 10, 11] [12, 13, 14, 15, 16, 17, 18, 19, 20, 21] [.ref q, .int x1, .int x2, .ref o] (mL_earthByColumns l D cI cL o fo q h a0 a1 a2 a3 a4 a5 g b0 b1 fi la B G pr N hfl hNN hN1 hN2 x1 x2) ⟨hx, hb, hml, hown, hts⟩ (vx_cwSW 4 hts gL_law_L_earthByColumns rfl rfl rfl (by decide +kernel) ⟨Nat.le_of_ble_eq_true rfl, Nat.le_of_ble_eq_true rfl⟩) pq_blL (hE.call hD hS hA [0, 1, 2, 3, 4, 5, 6, 7, 8, 9, 10, 11] rfl) hK hP hD hS hA rfl (by decide) rfl (by decide) (by decide) rfl hl.1 rfl (Nat.le_of_ble_eq_true rfl) dL_law_442 ⟨by show n + 3 ≤ 601024; omega, by show sl + 18 ≤ 7293034; omega⟩ (fun v w1 H locs hq hP hD hS hz => ?_)
  rcases hq with ⟨r, wc, hpost, rfl, rfl⟩ | ⟨hne, rfl, rfl⟩
  · obtain ⟨kf, kt, hxf, hxt, hft, htN, hv, rfl, hc0⟩ := hpost
    have hr := vi_eq hv
    have hP : va_P D vwCl (lwW o (vp_updL fo 0 r.toInt64) q h a0 a1 a2 a3 a4 a5 g b0 b1 mo z1 z2 z3 z4 z5 z6 z7 z8 z9 cI cL fi la B G pr (nI N) hs cs mf ml M td lf laid piled prs thr) H := hP.sub [10, 11, 12, 13, 14, 15, 16, 17, 18, 19, 20, 21, 0, 1, 2, 3, 4, 5, 6, 7, 8, 9] rfl
    have hD : va_D (fun q : Nat => s.heap.size ≤ q) (lwW o (vp_updL fo 0 r.toInt64) q h a0 a1 a2 a3 a4 a5 g b0 b1 mo z1 z2 z3 z4 z5 z6 z7 z8 z9 cI cL fi la B G pr (nI N) hs cs mf ml M td lf laid piled prs thr) := hD.sub [10, 11, 12, 13, 14, 15, 16, 17, 18, 19, 20, 21, 0, 1, 2, 3, 4, 5, 6, 7, 8, 9] (by decide) rfl
    refine lv_istore (lv' := [(5, .int 0), (4, .int (nI i)), (3, .ref o), (2, .ref mo), (1, .ref q), (0, .ref b)]) hx hb dL_law_445 hl (by decide) rfl (fun ls hl => ?_)
    refine lv_aload_n hx hb dL_law_447 rfl (lv_at hl 3 rfl) ?_
    refine lv_aload_n hx hb dL_law_448 rfl (lv_at hl 5 rfl) ?_
    refine lv_iload hx hb dL_law_449 (lv_at hl 1 rfl) ?_
    refine lv_iconst (v := 1) hx hb dL_law_451 (by decide) ?_
    refine lv_iadd hx hb dL_law_452 ?_
    refine pq_top (nI (i + 1)) (nI_1 _) ?_
    refine va_sld hx hb hX hbl hbA hS (vp_in_nI (by omega) (by omega)) dL_law_453 ?_
    rw [← hx1]
    refine lv_aload_n hx hb dL_law_454 rfl (lv_at hl 5 rfl) ?_
    refine lv_iload hx hb dL_law_455 (lv_at hl 1 rfl) ?_
    refine lv_iconst (v := 2) hx hb dL_law_457 (by decide) ?_
    refine lv_iadd hx hb dL_law_458 ?_
    refine pq_top (nI (i + 2)) (nI_add _ 2) ?_
    refine va_sld hx hb hX hbl hbA hS (vp_in_nI (by omega) (by omega)) dL_law_459 ?_
    rw [← hx2]
    refine pq_callV (rest := []) (wr := (o, .inl (cL, 1, .inr (.inl (vp_updL fo 0 r.toInt64)))) :: ppW q h a0 a1 a2 a3 a4 a5 g b0 b1 cI fi la B G pr) (own := RL) (nL := 9) (q0 := 12) (ci := 3) [12, 13, 14, 15, 16, 17, 18, 19, 20, 21] [0, 1, 2, 3, 4, 5, 6, 7, 8, 9, 10, 11] [.int x1, .int x2] (mX3_earthByColumns l D cI mo z1 z2 z3 z4 z5 z6 z7 z8 z9 (nI N) hs cs mf ml M td lf laid piled prs thr x1 x2 N rfl hN1 hN2) ⟨hx, hb, hml, hown, hts⟩ (cwV 2 hts gL_law_X3_earthByColumns rfl rfl rfl (by decide +kernel) ⟨Nat.le_of_ble_eq_true rfl, Nat.le_of_ble_eq_true rfl⟩) pq_bl0 (fun _ _ _ => trivial) (hK.sub [0] rfl) hP hD hS hA rfl (by decide) rfl (by decide) (by decide) rfl rfl rfl rfl hl.1 rfl (Nat.le_of_ble_eq_true rfl) dL_law_460 ⟨by show n + 3 + 0 ≤ 601024; omega, by show sl + 18 + 0 ≤ 7293034; omega⟩ (fun v w1 H locs hq hP hD hS hz => ?_)
    rcases hq with ⟨hm, rfl, rfl⟩ | ⟨kf2, kt2, hxf2, hxt2, hft2, htN2, rfl, rfl, hm0⟩
    · exact (hm (by rw [hNN] at hc0; exact hc0)).elim
    · skip
      have hP : va_P D vwCl (lwW o (vp_updL fo 0 r.toInt64) q h a0 a1 a2 a3 a4 a5 g b0 b1 mo z1 z2 z3 z4 z5 z6 z7 z8 z9 cI cL fi la B G pr (nI N) hs cs mf ml M td lf laid piled prs 0) H := hP
      have hD : va_D (fun q : Nat => s.heap.size ≤ q) (lwW o (vp_updL fo 0 r.toInt64) q h a0 a1 a2 a3 a4 a5 g b0 b1 mo z1 z2 z3 z4 z5 z6 z7 z8 z9 cI cL fi la B G pr (nI N) hs cs mf ml M td lf laid piled prs 0) := hD
      refine W.eq (g2 := F0 m 463 ls [.int (mAbove hs kf2 (kt2 + 1 - kf2) 0)]) rfl ?_
      refine lv_istore (lv' := [(6, .int (mAbove hs kf2 (kt2 + 1 - kf2) 0)), (5, .int 0), (4, .int (nI i)), (3, .ref o), (2, .ref mo), (1, .ref q), (0, .ref b)]) hx hb dL_law_463 hl (by decide) rfl (fun ls hl => ?_)
      refine lv_aload_n hx hb dL_law_465 rfl (lv_at hl 4 rfl) ?_
      refine pq_callV (rest := []) (wr := (o, .inl (cL, 1, .inr (.inl (vp_updL fo 0 r.toInt64)))) :: ppW q h a0 a1 a2 a3 a4 a5 g b0 b1 cI fi la B G pr) (own := RL) (nL := 9) (q0 := 12) (ci := 3) [12, 13, 14, 15, 16, 17, 18, 19, 20, 21] [0, 1, 2, 3, 4, 5, 6, 7, 8, 9, 10, 11] [] (mX3_thrown l D cI mo z1 z2 z3 z4 z5 z6 z7 z8 z9 (nI N) hs cs mf ml M td lf laid piled prs 0) ⟨hx, hb, hml, hown, hts⟩ (cwV 0 hts gL_law_X3_thrown rfl rfl rfl (by decide +kernel) ⟨Nat.le_of_ble_eq_true rfl, Nat.le_of_ble_eq_true rfl⟩) pq_bl0 (fun _ _ _ => trivial) (hK.sub [0] rfl) hP hD hS hA rfl (by decide) rfl (by decide) (by decide) rfl rfl rfl rfl hl.1 rfl (Nat.le_of_ble_eq_true rfl) dL_law_466 ⟨by show n + 3 + 0 + 0 ≤ 601024; omega, by show sl + 18 + 0 + 0 ≤ 7293034; omega⟩ (fun v w1 H locs hq hP hD hS hz => ?_)
      obtain ⟨rfl, rfl⟩ := hq
      have hP : va_P D vwCl (lwW o (vp_updL fo 0 r.toInt64) q h a0 a1 a2 a3 a4 a5 g b0 b1 mo z1 z2 z3 z4 z5 z6 z7 z8 z9 cI cL fi la B G pr (nI N) hs cs mf ml M td lf laid piled prs 0) H := hP
      have hD : va_D (fun q : Nat => s.heap.size ≤ q) (lwW o (vp_updL fo 0 r.toInt64) q h a0 a1 a2 a3 a4 a5 g b0 b1 mo z1 z2 z3 z4 z5 z6 z7 z8 z9 cI cL fi la B G pr (nI N) hs cs mf ml M td lf laid piled prs 0) := hD
      refine W.eq (g2 := F0 m 469 ls [.int 0]) rfl ?_
      refine lv_iload hx hb dL_law_469 (lv_at hl 1 rfl) ?_
      refine lv_icmp_eq (tgt := 476) hx hb dL_law_471 (by decide) (fun _ => ?_) (fun c9 => absurd rfl c9)
      refine lv_iload hx hb dL_law_476 (lv_at hl 1 rfl) ?_
      refine lv_if_ne (tgt := 493) hx hb dL_law_478 (by decide) (fun c9 => absurd rfl c9) (fun _ => ?_)
      refine lv_aload_n hx hb dL_law_481 rfl (lv_at hl 3 rfl) ?_
      refine lv_iconst (v := 0) hx hb dL_law_482 (by decide) ?_
      refine pq_lald hx hb hK hP 0 1 rfl rfl dL_law_483 ?_
      have hkf : kf = kf2 := nI_inj (by omega) (by omega) (hxf.symm.trans hxf2)
      have hkt : kt = kt2 := nI_inj (by omega) (by omega) (hxt.symm.trans hxt2)
      subst hkf
      subst hkt
      have hans := hr.trans (st_ebc I hft htN)
      have I2 := I
      have hg2 := hg
      have hpr2 := hpr
      rw [updL_0, hans]
      refine lv_iload hx hb dL_law_484 (lv_at hl 0 rfl) ?_
      refine lv_i2l hx hb dL_law_486 rfl ?_
      refine W.lcmp hx hb dL_law_487 ?_
      rw [lg_cmp_s]
      refine lv_if_eq (tgt := 493) hx hb dL_law_488 (by decide) (fun _ => ?_) (fun c9 => absurd rfl c9)
      refine lv_goto (tgt := 1291) hx hb dL_law_493 (by decide) ?_
      refine W.widen (k := n + 6) (n := sl + 36) (by omega) (by omega) ?_
      exact K _ H locs ls ⟨_, _, _, _, _, _, _, _, _, _, _, _, _, _, _, _, _, _, _, rfl, rfl, I2, hg2, hpr2⟩ hP hD hS (lv_sub hl [2, 3, 4, 5, 6] rfl)
  · skip
    have hP : va_P D vwCl (lwW o fo q h a0 a1 a2 a3 a4 a5 g b0 b1 mo z1 z2 z3 z4 z5 z6 z7 z8 z9 cI cL fi la B G pr (nI N) hs cs mf ml M td lf laid piled prs thr) H := hP.sub [10, 11, 12, 13, 14, 15, 16, 17, 18, 19, 20, 21, 0, 1, 2, 3, 4, 5, 6, 7, 8, 9] rfl
    have hD : va_D (fun q : Nat => s.heap.size ≤ q) (lwW o fo q h a0 a1 a2 a3 a4 a5 g b0 b1 mo z1 z2 z3 z4 z5 z6 z7 z8 z9 cI cL fi la B G pr (nI N) hs cs mf ml M td lf laid piled prs thr) := hD.sub [10, 11, 12, 13, 14, 15, 16, 17, 18, 19, 20, 21, 0, 1, 2, 3, 4, 5, 6, 7, 8, 9] (by decide) rfl
    refine lv_istore (lv' := [(5, .int (cSpan G.2.2.1 x1 x2)), (4, .int (nI i)), (3, .ref o), (2, .ref mo), (1, .ref q), (0, .ref b)]) hx hb dL_law_445 hl (by decide) rfl (fun ls hl => ?_)
    refine lv_aload_n hx hb dL_law_447 rfl (lv_at hl 3 rfl) ?_
    refine lv_aload_n hx hb dL_law_448 rfl (lv_at hl 5 rfl) ?_
    refine lv_iload hx hb dL_law_449 (lv_at hl 1 rfl) ?_
    refine lv_iconst (v := 1) hx hb dL_law_451 (by decide) ?_
    refine lv_iadd hx hb dL_law_452 ?_
    refine pq_top (nI (i + 1)) (nI_1 _) ?_
    refine va_sld hx hb hX hbl hbA hS (vp_in_nI (by omega) (by omega)) dL_law_453 ?_
    rw [← hx1]
    refine lv_aload_n hx hb dL_law_454 rfl (lv_at hl 5 rfl) ?_
    refine lv_iload hx hb dL_law_455 (lv_at hl 1 rfl) ?_
    refine lv_iconst (v := 2) hx hb dL_law_457 (by decide) ?_
    refine lv_iadd hx hb dL_law_458 ?_
    refine pq_top (nI (i + 2)) (nI_add _ 2) ?_
    refine va_sld hx hb hX hbl hbA hS (vp_in_nI (by omega) (by omega)) dL_law_459 ?_
    rw [← hx2]
    refine pq_callV (rest := []) (wr := (o, .inl (cL, 1, .inr (.inl fo))) :: ppW q h a0 a1 a2 a3 a4 a5 g b0 b1 cI fi la B G pr) (own := RL) (nL := 9) (q0 := 12) (ci := 3) [12, 13, 14, 15, 16, 17, 18, 19, 20, 21] [0, 1, 2, 3, 4, 5, 6, 7, 8, 9, 10, 11] [.int x1, .int x2] (mX3_earthByColumns l D cI mo z1 z2 z3 z4 z5 z6 z7 z8 z9 (nI N) hs cs mf ml M td lf laid piled prs thr x1 x2 N rfl hN1 hN2) ⟨hx, hb, hml, hown, hts⟩ (cwV 2 hts gL_law_X3_earthByColumns rfl rfl rfl (by decide +kernel) ⟨Nat.le_of_ble_eq_true rfl, Nat.le_of_ble_eq_true rfl⟩) pq_bl0 (fun _ _ _ => trivial) (hK.sub [0] rfl) hP hD hS hA rfl (by decide) rfl (by decide) (by decide) rfl rfl rfl rfl hl.1 rfl (Nat.le_of_ble_eq_true rfl) dL_law_460 ⟨by show n + 3 + 0 ≤ 601024; omega, by show sl + 18 + 0 ≤ 7293034; omega⟩ (fun v w1 H locs hq hP hD hS hz => ?_)
    rcases hq with ⟨hm, rfl, rfl⟩ | ⟨kf2, kt2, hxf2, hxt2, hft2, htN2, rfl, rfl, hm0⟩
    · skip
      have hP : va_P D vwCl (lwW o fo q h a0 a1 a2 a3 a4 a5 g b0 b1 mo z1 z2 z3 z4 z5 z6 z7 z8 z9 cI cL fi la B G pr (nI N) hs cs mf ml M td lf laid piled prs (cSpan (nI N) x1 x2)) H := hP
      have hD : va_D (fun q : Nat => s.heap.size ≤ q) (lwW o fo q h a0 a1 a2 a3 a4 a5 g b0 b1 mo z1 z2 z3 z4 z5 z6 z7 z8 z9 cI cL fi la B G pr (nI N) hs cs mf ml M td lf laid piled prs (cSpan (nI N) x1 x2)) := hD
      refine W.eq (g2 := F0 m 463 ls [.int 0]) rfl ?_
      refine lv_istore (lv' := [(6, .int 0), (5, .int (cSpan G.2.2.1 x1 x2)), (4, .int (nI i)), (3, .ref o), (2, .ref mo), (1, .ref q), (0, .ref b)]) hx hb dL_law_463 hl (by decide) rfl (fun ls hl => ?_)
      refine lv_aload_n hx hb dL_law_465 rfl (lv_at hl 4 rfl) ?_
      refine pq_callV (rest := []) (wr := (o, .inl (cL, 1, .inr (.inl fo))) :: ppW q h a0 a1 a2 a3 a4 a5 g b0 b1 cI fi la B G pr) (own := RL) (nL := 9) (q0 := 12) (ci := 3) [12, 13, 14, 15, 16, 17, 18, 19, 20, 21] [0, 1, 2, 3, 4, 5, 6, 7, 8, 9, 10, 11] [] (mX3_thrown l D cI mo z1 z2 z3 z4 z5 z6 z7 z8 z9 (nI N) hs cs mf ml M td lf laid piled prs (cSpan (nI N) x1 x2)) ⟨hx, hb, hml, hown, hts⟩ (cwV 0 hts gL_law_X3_thrown rfl rfl rfl (by decide +kernel) ⟨Nat.le_of_ble_eq_true rfl, Nat.le_of_ble_eq_true rfl⟩) pq_bl0 (fun _ _ _ => trivial) (hK.sub [0] rfl) hP hD hS hA rfl (by decide) rfl (by decide) (by decide) rfl rfl rfl rfl hl.1 rfl (Nat.le_of_ble_eq_true rfl) dL_law_466 ⟨by show n + 3 + 0 + 0 ≤ 601024; omega, by show sl + 18 + 0 + 0 ≤ 7293034; omega⟩ (fun v w1 H locs hq hP hD hS hz => ?_)
      obtain ⟨rfl, rfl⟩ := hq
      have hP : va_P D vwCl (lwW o fo q h a0 a1 a2 a3 a4 a5 g b0 b1 mo z1 z2 z3 z4 z5 z6 z7 z8 z9 cI cL fi la B G pr (nI N) hs cs mf ml M td lf laid piled prs (cSpan (nI N) x1 x2)) H := hP
      have hD : va_D (fun q : Nat => s.heap.size ≤ q) (lwW o fo q h a0 a1 a2 a3 a4 a5 g b0 b1 mo z1 z2 z3 z4 z5 z6 z7 z8 z9 cI cL fi la B G pr (nI N) hs cs mf ml M td lf laid piled prs (cSpan (nI N) x1 x2)) := hD
      refine W.eq (g2 := F0 m 469 ls [.int (cSpan (nI N) x1 x2)]) rfl ?_
      refine lv_iload hx hb dL_law_469 (lv_at hl 1 rfl) ?_
      refine lv_icmp_eq (tgt := 476) hx hb dL_law_471 (by decide) (fun _ => ?_) (fun c9 => absurd (by rw [hNN]) c9)
      refine lv_iload hx hb dL_law_476 (lv_at hl 1 rfl) ?_
      refine lv_if_ne (tgt := 493) hx hb dL_law_478 (by decide) (fun _ => ?_) (fun c9 => absurd c9 hne)
      refine lv_goto (tgt := 1291) hx hb dL_law_493 (by decide) ?_
      refine W.widen (k := n + 6) (n := sl + 36) (by omega) (by omega) ?_
      exact K _ H locs ls ⟨_, _, _, _, _, _, _, _, _, _, _, _, _, _, _, _, _, _, _, rfl, rfl, I, hg, hpr⟩ hP hD hS (lv_sub hl [2, 3, 4, 5, 6] rfl)
    · exact (hne (by rw [hNN]; exact hm0)).elim

set_option maxHeartbeats 4000000 in
set_option maxRecDepth 100000 in
theorem law_height {p : Program} {l : Launch} {ev : Env} {s : State} {m : MethodId} {b L : Nat} {xs : Nat → Int32} {below : List Frame} {meth : Method} {cd : Code} {Q : State → Prop} {o q h a0 a1 a2 a3 a4 a5 g b0 b1 mo z1 z2 z3 z4 z5 z6 z7 z8 z9 : Nat} {D : va_G} {cI cL : ClassId} {i n sl : Nat} (C : LC p l s m meth cd b L xs D cI cL) (hi : i + 4 ≤ L) (hn : n + 6 ≤ 600000) (hsl : sl + 36 ≤ 7000000) (K : LK p l ev s m b below meth cd Q o q h a0 a1 a2 a3 a4 a5 g b0 b1 mo z1 z2 z3 z4 z5 z6 z7 z8 z9 D cI cL i 1291 (n + 6) (sl + 36)) : LK p l ev s m b below meth cd Q o q h a0 a1 a2 a3 a4 a5 g b0 b1 mo z1 z2 z3 z4 z5 z6 z7 z8 z9 D cI cL i 564 n sl := by
  obtain ⟨hx, hb, hml, hown, hts, hX, hbl, hK, hE, hfl, hL⟩ := C
  have hA : ∀ q : Nat, s.heap.size ≤ q → (fun q : Nat => s.heap.size ≤ q) q := fun _ h => h
  have hbA : ¬ (fun q : Nat => s.heap.size ≤ q) b := Nat.not_le.mpr hbl
  rintro w H locs ls ⟨fo, fi, la, B, G, pr, N, hs, cs, mf, ml, M, td, lf, laid, piled, prs, thr, col, rfl, rfl, I, hg, hpr⟩ hP hD hS hl
  have hN1 := I.1
  have hN2 := I.2.1
  have hNN : G.2.2.1 = nI N := I.2.2.2.2.2.2.2.2
  have hT := I.2.2.2.1
  have hN5 : N < 65 := by omega
  obtain ⟨x1, hx1⟩ : ∃ z, z = xs (nI (i + 1)).toNatClampNeg := ⟨_, rfl⟩
  refine lv_aload_n hx hb dL_law_564 rfl (lv_at hl 3 rfl) ?_
  refine lv_aload_n hx hb dL_law_565 rfl (lv_at hl 4 rfl) ?_
  refine lv_iload hx hb dL_law_566 (lv_at hl 0 rfl) ?_
  refine lv_iconst (v := 1) hx hb dL_law_568 (by decide) ?_
  refine lv_iadd hx hb dL_law_569 ?_
  refine pq_top (nI (i + 1)) (nI_1 _) ?_
  refine va_sld hx hb hX hbl hbA hS (vp_in_nI (by omega) (by omega)) dL_law_570 ?_
  rw [← hx1]
  refine lv_aload_n hx hb dL_law_571 rfl (lv_at hl 1 rfl) ?_
  refine pq_callSW (wr := mdW mo z1 z2 z3 z4 z5 z6 z7 z8 z9 cI (nI N) hs cs mf ml M td lf laid piled prs thr) (own := RL) (nL := 9) [0, 1, 2, 3, 4, 5, 6, 7, 8, 9, 10, 11] [12, 13, 14, 15, 16, 17, 18, 19, 20, 21] [.ref q, .int x1, .ref o] (mL_height l D cI cL o fo q h a0 a1 a2 a3 a4 a5 g b0 b1 fi la B G pr N hfl hNN hN1 hN2 x1) ⟨hx, hb, hml, hown, hts⟩ (vx_cwSW 3 hts gL_law_L_height rfl rfl rfl (by decide +kernel) ⟨Nat.le_of_ble_eq_true rfl, Nat.le_of_ble_eq_true rfl⟩) pq_blL (hE.call hD hS hA [0, 1, 2, 3, 4, 5, 6, 7, 8, 9, 10, 11] rfl) hK hP hD hS hA rfl (by decide) rfl (by decide) (by decide) rfl hl.1 rfl (Nat.le_of_ble_eq_true rfl) dL_law_572 ⟨by show n + 1 ≤ 601024; omega, by show sl + 6 ≤ 7293034; omega⟩ (fun v w1 H locs hq hP hD hS hz => ?_)
  rcases hq with ⟨r, wc, hpost, rfl, rfl⟩ | ⟨hne, rfl, rfl⟩
  · obtain ⟨hv, rfl, hc0⟩ := hpost
    have hr := vi_eq hv
    have hP : va_P D vwCl (lwW o (vp_updL fo 0 r.toInt64) q h a0 a1 a2 a3 a4 a5 g b0 b1 mo z1 z2 z3 z4 z5 z6 z7 z8 z9 cI cL fi la B G pr (nI N) hs cs mf ml M td lf laid piled prs thr) H := hP.sub [10, 11, 12, 13, 14, 15, 16, 17, 18, 19, 20, 21, 0, 1, 2, 3, 4, 5, 6, 7, 8, 9] rfl
    have hD : va_D (fun q : Nat => s.heap.size ≤ q) (lwW o (vp_updL fo 0 r.toInt64) q h a0 a1 a2 a3 a4 a5 g b0 b1 mo z1 z2 z3 z4 z5 z6 z7 z8 z9 cI cL fi la B G pr (nI N) hs cs mf ml M td lf laid piled prs thr) := hD.sub [10, 11, 12, 13, 14, 15, 16, 17, 18, 19, 20, 21, 0, 1, 2, 3, 4, 5, 6, 7, 8, 9] (by decide) rfl
    refine lv_istore (lv' := [(5, .int 0), (4, .int (nI i)), (3, .ref o), (2, .ref mo), (1, .ref q), (0, .ref b)]) hx hb dL_law_575 hl (by decide) rfl (fun ls hl => ?_)
    refine lv_aload_n hx hb dL_law_577 rfl (lv_at hl 3 rfl) ?_
    refine lv_aload_n hx hb dL_law_578 rfl (lv_at hl 5 rfl) ?_
    refine lv_iload hx hb dL_law_579 (lv_at hl 1 rfl) ?_
    refine lv_iconst (v := 1) hx hb dL_law_581 (by decide) ?_
    refine lv_iadd hx hb dL_law_582 ?_
    refine pq_top (nI (i + 1)) (nI_1 _) ?_
    refine va_sld hx hb hX hbl hbA hS (vp_in_nI (by omega) (by omega)) dL_law_583 ?_
    rw [← hx1]
    refine pq_callV (rest := []) (wr := (o, .inl (cL, 1, .inr (.inl (vp_updL fo 0 r.toInt64)))) :: ppW q h a0 a1 a2 a3 a4 a5 g b0 b1 cI fi la B G pr) (own := RL) (nL := 9) (q0 := 12) (ci := 3) [12, 13, 14, 15, 16, 17, 18, 19, 20, 21] [0, 1, 2, 3, 4, 5, 6, 7, 8, 9, 10, 11] [.int x1] (mX3_height l D cI mo z1 z2 z3 z4 z5 z6 z7 z8 z9 (nI N) hs cs mf ml M td lf laid piled prs thr x1 N rfl hN1 hN2) ⟨hx, hb, hml, hown, hts⟩ (cwV 1 hts gL_law_X3_height rfl rfl rfl (by decide +kernel) ⟨Nat.le_of_ble_eq_true rfl, Nat.le_of_ble_eq_true rfl⟩) pq_bl0 (fun _ _ _ => trivial) (hK.sub [0] rfl) hP hD hS hA rfl (by decide) rfl (by decide) (by decide) rfl rfl rfl rfl hl.1 rfl (Nat.le_of_ble_eq_true rfl) dL_law_584 ⟨by show n + 1 + 0 ≤ 601024; omega, by show sl + 6 + 0 ≤ 7293034; omega⟩ (fun v w1 H locs hq hP hD hS hz => ?_)
    rcases hq with ⟨hm, rfl, rfl⟩ | ⟨k2, hxk2, hk2, rfl, rfl, hm0⟩
    · exact (hm (by rw [hNN] at hc0; exact hc0)).elim
    · skip
      have hP : va_P D vwCl (lwW o (vp_updL fo 0 r.toInt64) q h a0 a1 a2 a3 a4 a5 g b0 b1 mo z1 z2 z3 z4 z5 z6 z7 z8 z9 cI cL fi la B G pr (nI N) hs cs mf ml M td lf laid piled prs 0) H := hP
      have hD : va_D (fun q : Nat => s.heap.size ≤ q) (lwW o (vp_updL fo 0 r.toInt64) q h a0 a1 a2 a3 a4 a5 g b0 b1 mo z1 z2 z3 z4 z5 z6 z7 z8 z9 cI cL fi la B G pr (nI N) hs cs mf ml M td lf laid piled prs 0) := hD
      refine W.eq (g2 := F0 m 587 ls [.int (hs k2)]) rfl ?_
      refine lv_istore (lv' := [(6, .int (hs k2)), (5, .int 0), (4, .int (nI i)), (3, .ref o), (2, .ref mo), (1, .ref q), (0, .ref b)]) hx hb dL_law_587 hl (by decide) rfl (fun ls hl => ?_)
      refine lv_aload_n hx hb dL_law_589 rfl (lv_at hl 4 rfl) ?_
      refine pq_callV (rest := []) (wr := (o, .inl (cL, 1, .inr (.inl (vp_updL fo 0 r.toInt64)))) :: ppW q h a0 a1 a2 a3 a4 a5 g b0 b1 cI fi la B G pr) (own := RL) (nL := 9) (q0 := 12) (ci := 3) [12, 13, 14, 15, 16, 17, 18, 19, 20, 21] [0, 1, 2, 3, 4, 5, 6, 7, 8, 9, 10, 11] [] (mX3_thrown l D cI mo z1 z2 z3 z4 z5 z6 z7 z8 z9 (nI N) hs cs mf ml M td lf laid piled prs 0) ⟨hx, hb, hml, hown, hts⟩ (cwV 0 hts gL_law_X3_thrown rfl rfl rfl (by decide +kernel) ⟨Nat.le_of_ble_eq_true rfl, Nat.le_of_ble_eq_true rfl⟩) pq_bl0 (fun _ _ _ => trivial) (hK.sub [0] rfl) hP hD hS hA rfl (by decide) rfl (by decide) (by decide) rfl rfl rfl rfl hl.1 rfl (Nat.le_of_ble_eq_true rfl) dL_law_590 ⟨by show n + 1 + 0 + 0 ≤ 601024; omega, by show sl + 6 + 0 + 0 ≤ 7293034; omega⟩ (fun v w1 H locs hq hP hD hS hz => ?_)
      obtain ⟨rfl, rfl⟩ := hq
      have hP : va_P D vwCl (lwW o (vp_updL fo 0 r.toInt64) q h a0 a1 a2 a3 a4 a5 g b0 b1 mo z1 z2 z3 z4 z5 z6 z7 z8 z9 cI cL fi la B G pr (nI N) hs cs mf ml M td lf laid piled prs 0) H := hP
      have hD : va_D (fun q : Nat => s.heap.size ≤ q) (lwW o (vp_updL fo 0 r.toInt64) q h a0 a1 a2 a3 a4 a5 g b0 b1 mo z1 z2 z3 z4 z5 z6 z7 z8 z9 cI cL fi la B G pr (nI N) hs cs mf ml M td lf laid piled prs 0) := hD
      refine W.eq (g2 := F0 m 593 ls [.int 0]) rfl ?_
      refine lv_iload hx hb dL_law_593 (lv_at hl 1 rfl) ?_
      refine lv_icmp_eq (tgt := 600) hx hb dL_law_595 (by decide) (fun _ => ?_) (fun c9 => absurd rfl c9)
      refine lv_iload hx hb dL_law_600 (lv_at hl 1 rfl) ?_
      refine lv_if_ne (tgt := 617) hx hb dL_law_602 (by decide) (fun c9 => absurd rfl c9) (fun _ => ?_)
      refine lv_aload_n hx hb dL_law_605 rfl (lv_at hl 3 rfl) ?_
      refine lv_iconst (v := 0) hx hb dL_law_606 (by decide) ?_
      refine pq_lald hx hb hK hP 0 1 rfl rfl dL_law_607 ?_
      rw [hxk2] at hr
      have hans := hr.trans (iv_height I hk2)
      have I2 := I
      have hg2 := hg
      have hpr2 := hpr
      rw [updL_0, hans]
      refine lv_iload hx hb dL_law_608 (lv_at hl 0 rfl) ?_
      refine lv_i2l hx hb dL_law_610 rfl ?_
      refine W.lcmp hx hb dL_law_611 ?_
      rw [lg_cmp_s]
      refine lv_if_eq (tgt := 617) hx hb dL_law_612 (by decide) (fun _ => ?_) (fun c9 => absurd rfl c9)
      refine lv_goto (tgt := 1291) hx hb dL_law_617 (by decide) ?_
      refine W.widen (k := n + 6) (n := sl + 36) (by omega) (by omega) ?_
      exact K _ H locs ls ⟨_, _, _, _, _, _, _, _, _, _, _, _, _, _, _, _, _, _, _, rfl, rfl, I2, hg2, hpr2⟩ hP hD hS (lv_sub hl [2, 3, 4, 5, 6] rfl)
  · skip
    have hP : va_P D vwCl (lwW o fo q h a0 a1 a2 a3 a4 a5 g b0 b1 mo z1 z2 z3 z4 z5 z6 z7 z8 z9 cI cL fi la B G pr (nI N) hs cs mf ml M td lf laid piled prs thr) H := hP.sub [10, 11, 12, 13, 14, 15, 16, 17, 18, 19, 20, 21, 0, 1, 2, 3, 4, 5, 6, 7, 8, 9] rfl
    have hD : va_D (fun q : Nat => s.heap.size ≤ q) (lwW o fo q h a0 a1 a2 a3 a4 a5 g b0 b1 mo z1 z2 z3 z4 z5 z6 z7 z8 z9 cI cL fi la B G pr (nI N) hs cs mf ml M td lf laid piled prs thr) := hD.sub [10, 11, 12, 13, 14, 15, 16, 17, 18, 19, 20, 21, 0, 1, 2, 3, 4, 5, 6, 7, 8, 9] (by decide) rfl
    refine lv_istore (lv' := [(5, .int (cCol G.2.2.1 x1)), (4, .int (nI i)), (3, .ref o), (2, .ref mo), (1, .ref q), (0, .ref b)]) hx hb dL_law_575 hl (by decide) rfl (fun ls hl => ?_)
    refine lv_aload_n hx hb dL_law_577 rfl (lv_at hl 3 rfl) ?_
    refine lv_aload_n hx hb dL_law_578 rfl (lv_at hl 5 rfl) ?_
    refine lv_iload hx hb dL_law_579 (lv_at hl 1 rfl) ?_
    refine lv_iconst (v := 1) hx hb dL_law_581 (by decide) ?_
    refine lv_iadd hx hb dL_law_582 ?_
    refine pq_top (nI (i + 1)) (nI_1 _) ?_
    refine va_sld hx hb hX hbl hbA hS (vp_in_nI (by omega) (by omega)) dL_law_583 ?_
    rw [← hx1]
    refine pq_callV (rest := []) (wr := (o, .inl (cL, 1, .inr (.inl fo))) :: ppW q h a0 a1 a2 a3 a4 a5 g b0 b1 cI fi la B G pr) (own := RL) (nL := 9) (q0 := 12) (ci := 3) [12, 13, 14, 15, 16, 17, 18, 19, 20, 21] [0, 1, 2, 3, 4, 5, 6, 7, 8, 9, 10, 11] [.int x1] (mX3_height l D cI mo z1 z2 z3 z4 z5 z6 z7 z8 z9 (nI N) hs cs mf ml M td lf laid piled prs thr x1 N rfl hN1 hN2) ⟨hx, hb, hml, hown, hts⟩ (cwV 1 hts gL_law_X3_height rfl rfl rfl (by decide +kernel) ⟨Nat.le_of_ble_eq_true rfl, Nat.le_of_ble_eq_true rfl⟩) pq_bl0 (fun _ _ _ => trivial) (hK.sub [0] rfl) hP hD hS hA rfl (by decide) rfl (by decide) (by decide) rfl rfl rfl rfl hl.1 rfl (Nat.le_of_ble_eq_true rfl) dL_law_584 ⟨by show n + 1 + 0 ≤ 601024; omega, by show sl + 6 + 0 ≤ 7293034; omega⟩ (fun v w1 H locs hq hP hD hS hz => ?_)
    rcases hq with ⟨hm, rfl, rfl⟩ | ⟨k2, hxk2, hk2, rfl, rfl, hm0⟩
    · skip
      have hP : va_P D vwCl (lwW o fo q h a0 a1 a2 a3 a4 a5 g b0 b1 mo z1 z2 z3 z4 z5 z6 z7 z8 z9 cI cL fi la B G pr (nI N) hs cs mf ml M td lf laid piled prs (cCol (nI N) x1)) H := hP
      have hD : va_D (fun q : Nat => s.heap.size ≤ q) (lwW o fo q h a0 a1 a2 a3 a4 a5 g b0 b1 mo z1 z2 z3 z4 z5 z6 z7 z8 z9 cI cL fi la B G pr (nI N) hs cs mf ml M td lf laid piled prs (cCol (nI N) x1)) := hD
      refine W.eq (g2 := F0 m 587 ls [.int 0]) rfl ?_
      refine lv_istore (lv' := [(6, .int 0), (5, .int (cCol G.2.2.1 x1)), (4, .int (nI i)), (3, .ref o), (2, .ref mo), (1, .ref q), (0, .ref b)]) hx hb dL_law_587 hl (by decide) rfl (fun ls hl => ?_)
      refine lv_aload_n hx hb dL_law_589 rfl (lv_at hl 4 rfl) ?_
      refine pq_callV (rest := []) (wr := (o, .inl (cL, 1, .inr (.inl fo))) :: ppW q h a0 a1 a2 a3 a4 a5 g b0 b1 cI fi la B G pr) (own := RL) (nL := 9) (q0 := 12) (ci := 3) [12, 13, 14, 15, 16, 17, 18, 19, 20, 21] [0, 1, 2, 3, 4, 5, 6, 7, 8, 9, 10, 11] [] (mX3_thrown l D cI mo z1 z2 z3 z4 z5 z6 z7 z8 z9 (nI N) hs cs mf ml M td lf laid piled prs (cCol (nI N) x1)) ⟨hx, hb, hml, hown, hts⟩ (cwV 0 hts gL_law_X3_thrown rfl rfl rfl (by decide +kernel) ⟨Nat.le_of_ble_eq_true rfl, Nat.le_of_ble_eq_true rfl⟩) pq_bl0 (fun _ _ _ => trivial) (hK.sub [0] rfl) hP hD hS hA rfl (by decide) rfl (by decide) (by decide) rfl rfl rfl rfl hl.1 rfl (Nat.le_of_ble_eq_true rfl) dL_law_590 ⟨by show n + 1 + 0 + 0 ≤ 601024; omega, by show sl + 6 + 0 + 0 ≤ 7293034; omega⟩ (fun v w1 H locs hq hP hD hS hz => ?_)
      obtain ⟨rfl, rfl⟩ := hq
      have hP : va_P D vwCl (lwW o fo q h a0 a1 a2 a3 a4 a5 g b0 b1 mo z1 z2 z3 z4 z5 z6 z7 z8 z9 cI cL fi la B G pr (nI N) hs cs mf ml M td lf laid piled prs (cCol (nI N) x1)) H := hP
      have hD : va_D (fun q : Nat => s.heap.size ≤ q) (lwW o fo q h a0 a1 a2 a3 a4 a5 g b0 b1 mo z1 z2 z3 z4 z5 z6 z7 z8 z9 cI cL fi la B G pr (nI N) hs cs mf ml M td lf laid piled prs (cCol (nI N) x1)) := hD
      refine W.eq (g2 := F0 m 593 ls [.int (cCol (nI N) x1)]) rfl ?_
      refine lv_iload hx hb dL_law_593 (lv_at hl 1 rfl) ?_
      refine lv_icmp_eq (tgt := 600) hx hb dL_law_595 (by decide) (fun _ => ?_) (fun c9 => absurd (by rw [hNN]) c9)
      refine lv_iload hx hb dL_law_600 (lv_at hl 1 rfl) ?_
      refine lv_if_ne (tgt := 617) hx hb dL_law_602 (by decide) (fun _ => ?_) (fun c9 => absurd c9 hne)
      refine lv_goto (tgt := 1291) hx hb dL_law_617 (by decide) ?_
      refine W.widen (k := n + 6) (n := sl + 36) (by omega) (by omega) ?_
      exact K _ H locs ls ⟨_, _, _, _, _, _, _, _, _, _, _, _, _, _, _, _, _, _, _, rfl, rfl, I, hg, hpr⟩ hP hD hS (lv_sub hl [2, 3, 4, 5, 6] rfl)
    · exact (hne (by rw [hNN]; exact hm0)).elim

set_option maxHeartbeats 4000000 in
set_option maxRecDepth 100000 in
theorem law_heightOfColumn {p : Program} {l : Launch} {ev : Env} {s : State} {m : MethodId} {b L : Nat} {xs : Nat → Int32} {below : List Frame} {meth : Method} {cd : Code} {Q : State → Prop} {o q h a0 a1 a2 a3 a4 a5 g b0 b1 mo z1 z2 z3 z4 z5 z6 z7 z8 z9 : Nat} {D : va_G} {cI cL : ClassId} {i n sl : Nat} (C : LC p l s m meth cd b L xs D cI cL) (hi : i + 4 ≤ L) (hn : n + 6 ≤ 600000) (hsl : sl + 36 ≤ 7000000) (K : LK p l ev s m b below meth cd Q o q h a0 a1 a2 a3 a4 a5 g b0 b1 mo z1 z2 z3 z4 z5 z6 z7 z8 z9 D cI cL i 1291 (n + 6) (sl + 36)) : LK p l ev s m b below meth cd Q o q h a0 a1 a2 a3 a4 a5 g b0 b1 mo z1 z2 z3 z4 z5 z6 z7 z8 z9 D cI cL i 620 n sl := by
  obtain ⟨hx, hb, hml, hown, hts, hX, hbl, hK, hE, hfl, hL⟩ := C
  have hA : ∀ q : Nat, s.heap.size ≤ q → (fun q : Nat => s.heap.size ≤ q) q := fun _ h => h
  have hbA : ¬ (fun q : Nat => s.heap.size ≤ q) b := Nat.not_le.mpr hbl
  rintro w H locs ls ⟨fo, fi, la, B, G, pr, N, hs, cs, mf, ml, M, td, lf, laid, piled, prs, thr, col, rfl, rfl, I, hg, hpr⟩ hP hD hS hl
  have hN1 := I.1
  have hN2 := I.2.1
  have hNN : G.2.2.1 = nI N := I.2.2.2.2.2.2.2.2
  have hT := I.2.2.2.1
  have hN5 : N < 65 := by omega
  obtain ⟨x1, hx1⟩ : ∃ z, z = xs (nI (i + 1)).toNatClampNeg := ⟨_, rfl⟩
  refine lv_aload_n hx hb dL_law_620 rfl (lv_at hl 3 rfl) ?_
  refine lv_aload_n hx hb dL_law_621 rfl (lv_at hl 4 rfl) ?_
  refine lv_iload hx hb dL_law_622 (lv_at hl 0 rfl) ?_
  refine lv_iconst (v := 1) hx hb dL_law_624 (by decide) ?_
  refine lv_iadd hx hb dL_law_625 ?_
  refine pq_top (nI (i + 1)) (nI_1 _) ?_
  refine va_sld hx hb hX hbl hbA hS (vp_in_nI (by omega) (by omega)) dL_law_626 ?_
  rw [← hx1]
  refine lv_aload_n hx hb dL_law_627 rfl (lv_at hl 1 rfl) ?_
  refine pq_callSW (wr := mdW mo z1 z2 z3 z4 z5 z6 z7 z8 z9 cI (nI N) hs cs mf ml M td lf laid piled prs thr) (own := RL) (nL := 9) [0, 1, 2, 3, 4, 5, 6, 7, 8, 9, 10, 11] [12, 13, 14, 15, 16, 17, 18, 19, 20, 21] [.ref q, .int x1, .ref o] (mL_heightOfColumn l D cI cL o fo q h a0 a1 a2 a3 a4 a5 g b0 b1 fi la B G pr N hfl hNN hN1 hN2 x1) ⟨hx, hb, hml, hown, hts⟩ (vx_cwSW 3 hts gL_law_L_heightOfColumn rfl rfl rfl (by decide +kernel) ⟨Nat.le_of_ble_eq_true rfl, Nat.le_of_ble_eq_true rfl⟩) pq_blL (hE.call hD hS hA [0, 1, 2, 3, 4, 5, 6, 7, 8, 9, 10, 11] rfl) hK hP hD hS hA rfl (by decide) rfl (by decide) (by decide) rfl hl.1 rfl (Nat.le_of_ble_eq_true rfl) dL_law_628 ⟨by show n + 1 ≤ 601024; omega, by show sl + 6 ≤ 7293034; omega⟩ (fun v w1 H locs hq hP hD hS hz => ?_)
  rcases hq with ⟨r, wc, hpost, rfl, rfl⟩ | ⟨hne, rfl, rfl⟩
  · obtain ⟨k, hxk, hk, hv, rfl, hc0⟩ := hpost
    have hr := vi_eq hv
    have hP : va_P D vwCl (lwW o (vp_updL fo 0 r.toInt64) q h a0 a1 a2 a3 a4 a5 g b0 b1 mo z1 z2 z3 z4 z5 z6 z7 z8 z9 cI cL fi la B G pr (nI N) hs cs mf ml M td lf laid piled prs thr) H := hP.sub [10, 11, 12, 13, 14, 15, 16, 17, 18, 19, 20, 21, 0, 1, 2, 3, 4, 5, 6, 7, 8, 9] rfl
    have hD : va_D (fun q : Nat => s.heap.size ≤ q) (lwW o (vp_updL fo 0 r.toInt64) q h a0 a1 a2 a3 a4 a5 g b0 b1 mo z1 z2 z3 z4 z5 z6 z7 z8 z9 cI cL fi la B G pr (nI N) hs cs mf ml M td lf laid piled prs thr) := hD.sub [10, 11, 12, 13, 14, 15, 16, 17, 18, 19, 20, 21, 0, 1, 2, 3, 4, 5, 6, 7, 8, 9] (by decide) rfl
    refine lv_istore (lv' := [(5, .int 0), (4, .int (nI i)), (3, .ref o), (2, .ref mo), (1, .ref q), (0, .ref b)]) hx hb dL_law_631 hl (by decide) rfl (fun ls hl => ?_)
    refine lv_aload_n hx hb dL_law_633 rfl (lv_at hl 3 rfl) ?_
    refine lv_aload_n hx hb dL_law_634 rfl (lv_at hl 5 rfl) ?_
    refine lv_iload hx hb dL_law_635 (lv_at hl 1 rfl) ?_
    refine lv_iconst (v := 1) hx hb dL_law_637 (by decide) ?_
    refine lv_iadd hx hb dL_law_638 ?_
    refine pq_top (nI (i + 1)) (nI_1 _) ?_
    refine va_sld hx hb hX hbl hbA hS (vp_in_nI (by omega) (by omega)) dL_law_639 ?_
    rw [← hx1]
    refine pq_callV (rest := []) (wr := (o, .inl (cL, 1, .inr (.inl (vp_updL fo 0 r.toInt64)))) :: ppW q h a0 a1 a2 a3 a4 a5 g b0 b1 cI fi la B G pr) (own := RL) (nL := 9) (q0 := 12) (ci := 3) [12, 13, 14, 15, 16, 17, 18, 19, 20, 21] [0, 1, 2, 3, 4, 5, 6, 7, 8, 9, 10, 11] [.int x1] (mX3_heightOfColumn l D cI mo z1 z2 z3 z4 z5 z6 z7 z8 z9 (nI N) hs cs mf ml M td lf laid piled prs thr x1 N rfl hN1 hN2) ⟨hx, hb, hml, hown, hts⟩ (cwV 1 hts gL_law_X3_heightOfColumn rfl rfl rfl (by decide +kernel) ⟨Nat.le_of_ble_eq_true rfl, Nat.le_of_ble_eq_true rfl⟩) pq_bl0 (fun _ _ _ => trivial) (hK.sub [0] rfl) hP hD hS hA rfl (by decide) rfl (by decide) (by decide) rfl rfl rfl rfl hl.1 rfl (Nat.le_of_ble_eq_true rfl) dL_law_640 ⟨by show n + 1 + 0 ≤ 601024; omega, by show sl + 6 + 0 ≤ 7293034; omega⟩ (fun v w1 H locs hq hP hD hS hz => ?_)
    rcases hq with ⟨hm, rfl, rfl⟩ | ⟨k2, hxk2, hk2, rfl, rfl, hm0⟩
    · exact (hm (by rw [hNN] at hc0; exact hc0)).elim
    · skip
      have hP : va_P D vwCl (lwW o (vp_updL fo 0 r.toInt64) q h a0 a1 a2 a3 a4 a5 g b0 b1 mo z1 z2 z3 z4 z5 z6 z7 z8 z9 cI cL fi la B G pr (nI N) hs cs mf ml M td lf laid piled prs 0) H := hP
      have hD : va_D (fun q : Nat => s.heap.size ≤ q) (lwW o (vp_updL fo 0 r.toInt64) q h a0 a1 a2 a3 a4 a5 g b0 b1 mo z1 z2 z3 z4 z5 z6 z7 z8 z9 cI cL fi la B G pr (nI N) hs cs mf ml M td lf laid piled prs 0) := hD
      refine W.eq (g2 := F0 m 643 ls [.int (hs k2)]) rfl ?_
      refine lv_istore (lv' := [(6, .int (hs k2)), (5, .int 0), (4, .int (nI i)), (3, .ref o), (2, .ref mo), (1, .ref q), (0, .ref b)]) hx hb dL_law_643 hl (by decide) rfl (fun ls hl => ?_)
      refine lv_aload_n hx hb dL_law_645 rfl (lv_at hl 4 rfl) ?_
      refine pq_callV (rest := []) (wr := (o, .inl (cL, 1, .inr (.inl (vp_updL fo 0 r.toInt64)))) :: ppW q h a0 a1 a2 a3 a4 a5 g b0 b1 cI fi la B G pr) (own := RL) (nL := 9) (q0 := 12) (ci := 3) [12, 13, 14, 15, 16, 17, 18, 19, 20, 21] [0, 1, 2, 3, 4, 5, 6, 7, 8, 9, 10, 11] [] (mX3_thrown l D cI mo z1 z2 z3 z4 z5 z6 z7 z8 z9 (nI N) hs cs mf ml M td lf laid piled prs 0) ⟨hx, hb, hml, hown, hts⟩ (cwV 0 hts gL_law_X3_thrown rfl rfl rfl (by decide +kernel) ⟨Nat.le_of_ble_eq_true rfl, Nat.le_of_ble_eq_true rfl⟩) pq_bl0 (fun _ _ _ => trivial) (hK.sub [0] rfl) hP hD hS hA rfl (by decide) rfl (by decide) (by decide) rfl rfl rfl rfl hl.1 rfl (Nat.le_of_ble_eq_true rfl) dL_law_646 ⟨by show n + 1 + 0 + 0 ≤ 601024; omega, by show sl + 6 + 0 + 0 ≤ 7293034; omega⟩ (fun v w1 H locs hq hP hD hS hz => ?_)
      obtain ⟨rfl, rfl⟩ := hq
      have hP : va_P D vwCl (lwW o (vp_updL fo 0 r.toInt64) q h a0 a1 a2 a3 a4 a5 g b0 b1 mo z1 z2 z3 z4 z5 z6 z7 z8 z9 cI cL fi la B G pr (nI N) hs cs mf ml M td lf laid piled prs 0) H := hP
      have hD : va_D (fun q : Nat => s.heap.size ≤ q) (lwW o (vp_updL fo 0 r.toInt64) q h a0 a1 a2 a3 a4 a5 g b0 b1 mo z1 z2 z3 z4 z5 z6 z7 z8 z9 cI cL fi la B G pr (nI N) hs cs mf ml M td lf laid piled prs 0) := hD
      refine W.eq (g2 := F0 m 649 ls [.int 0]) rfl ?_
      refine lv_iload hx hb dL_law_649 (lv_at hl 1 rfl) ?_
      refine lv_icmp_eq (tgt := 656) hx hb dL_law_651 (by decide) (fun _ => ?_) (fun c9 => absurd rfl c9)
      refine lv_iload hx hb dL_law_656 (lv_at hl 1 rfl) ?_
      refine lv_if_ne (tgt := 673) hx hb dL_law_658 (by decide) (fun c9 => absurd rfl c9) (fun _ => ?_)
      refine lv_aload_n hx hb dL_law_661 rfl (lv_at hl 3 rfl) ?_
      refine lv_iconst (v := 0) hx hb dL_law_662 (by decide) ?_
      refine pq_lald hx hb hK hP 0 1 rfl rfl dL_law_663 ?_
      have hkk : k = k2 := nI_inj (by omega) (by omega) (hxk.symm.trans hxk2)
      subst hkk
      have hans := hr.trans (st_col I hk).1
      have I2 := I
      have hg2 := hg
      have hpr2 := hpr
      rw [updL_0, hans]
      refine lv_iload hx hb dL_law_664 (lv_at hl 0 rfl) ?_
      refine lv_i2l hx hb dL_law_666 rfl ?_
      refine W.lcmp hx hb dL_law_667 ?_
      rw [lg_cmp_s]
      refine lv_if_eq (tgt := 673) hx hb dL_law_668 (by decide) (fun _ => ?_) (fun c9 => absurd rfl c9)
      refine lv_goto (tgt := 1291) hx hb dL_law_673 (by decide) ?_
      refine W.widen (k := n + 6) (n := sl + 36) (by omega) (by omega) ?_
      exact K _ H locs ls ⟨_, _, _, _, _, _, _, _, _, _, _, _, _, _, _, _, _, _, _, rfl, rfl, I2, hg2, hpr2⟩ hP hD hS (lv_sub hl [2, 3, 4, 5, 6] rfl)
  · skip
    have hP : va_P D vwCl (lwW o fo q h a0 a1 a2 a3 a4 a5 g b0 b1 mo z1 z2 z3 z4 z5 z6 z7 z8 z9 cI cL fi la B G pr (nI N) hs cs mf ml M td lf laid piled prs thr) H := hP.sub [10, 11, 12, 13, 14, 15, 16, 17, 18, 19, 20, 21, 0, 1, 2, 3, 4, 5, 6, 7, 8, 9] rfl
    have hD : va_D (fun q : Nat => s.heap.size ≤ q) (lwW o fo q h a0 a1 a2 a3 a4 a5 g b0 b1 mo z1 z2 z3 z4 z5 z6 z7 z8 z9 cI cL fi la B G pr (nI N) hs cs mf ml M td lf laid piled prs thr) := hD.sub [10, 11, 12, 13, 14, 15, 16, 17, 18, 19, 20, 21, 0, 1, 2, 3, 4, 5, 6, 7, 8, 9] (by decide) rfl
    refine lv_istore (lv' := [(5, .int (cCol G.2.2.1 x1)), (4, .int (nI i)), (3, .ref o), (2, .ref mo), (1, .ref q), (0, .ref b)]) hx hb dL_law_631 hl (by decide) rfl (fun ls hl => ?_)
    refine lv_aload_n hx hb dL_law_633 rfl (lv_at hl 3 rfl) ?_
    refine lv_aload_n hx hb dL_law_634 rfl (lv_at hl 5 rfl) ?_
    refine lv_iload hx hb dL_law_635 (lv_at hl 1 rfl) ?_
    refine lv_iconst (v := 1) hx hb dL_law_637 (by decide) ?_
    refine lv_iadd hx hb dL_law_638 ?_
    refine pq_top (nI (i + 1)) (nI_1 _) ?_
    refine va_sld hx hb hX hbl hbA hS (vp_in_nI (by omega) (by omega)) dL_law_639 ?_
    rw [← hx1]
    refine pq_callV (rest := []) (wr := (o, .inl (cL, 1, .inr (.inl fo))) :: ppW q h a0 a1 a2 a3 a4 a5 g b0 b1 cI fi la B G pr) (own := RL) (nL := 9) (q0 := 12) (ci := 3) [12, 13, 14, 15, 16, 17, 18, 19, 20, 21] [0, 1, 2, 3, 4, 5, 6, 7, 8, 9, 10, 11] [.int x1] (mX3_heightOfColumn l D cI mo z1 z2 z3 z4 z5 z6 z7 z8 z9 (nI N) hs cs mf ml M td lf laid piled prs thr x1 N rfl hN1 hN2) ⟨hx, hb, hml, hown, hts⟩ (cwV 1 hts gL_law_X3_heightOfColumn rfl rfl rfl (by decide +kernel) ⟨Nat.le_of_ble_eq_true rfl, Nat.le_of_ble_eq_true rfl⟩) pq_bl0 (fun _ _ _ => trivial) (hK.sub [0] rfl) hP hD hS hA rfl (by decide) rfl (by decide) (by decide) rfl rfl rfl rfl hl.1 rfl (Nat.le_of_ble_eq_true rfl) dL_law_640 ⟨by show n + 1 + 0 ≤ 601024; omega, by show sl + 6 + 0 ≤ 7293034; omega⟩ (fun v w1 H locs hq hP hD hS hz => ?_)
    rcases hq with ⟨hm, rfl, rfl⟩ | ⟨k2, hxk2, hk2, rfl, rfl, hm0⟩
    · skip
      have hP : va_P D vwCl (lwW o fo q h a0 a1 a2 a3 a4 a5 g b0 b1 mo z1 z2 z3 z4 z5 z6 z7 z8 z9 cI cL fi la B G pr (nI N) hs cs mf ml M td lf laid piled prs (cCol (nI N) x1)) H := hP
      have hD : va_D (fun q : Nat => s.heap.size ≤ q) (lwW o fo q h a0 a1 a2 a3 a4 a5 g b0 b1 mo z1 z2 z3 z4 z5 z6 z7 z8 z9 cI cL fi la B G pr (nI N) hs cs mf ml M td lf laid piled prs (cCol (nI N) x1)) := hD
      refine W.eq (g2 := F0 m 643 ls [.int 0]) rfl ?_
      refine lv_istore (lv' := [(6, .int 0), (5, .int (cCol G.2.2.1 x1)), (4, .int (nI i)), (3, .ref o), (2, .ref mo), (1, .ref q), (0, .ref b)]) hx hb dL_law_643 hl (by decide) rfl (fun ls hl => ?_)
      refine lv_aload_n hx hb dL_law_645 rfl (lv_at hl 4 rfl) ?_
      refine pq_callV (rest := []) (wr := (o, .inl (cL, 1, .inr (.inl fo))) :: ppW q h a0 a1 a2 a3 a4 a5 g b0 b1 cI fi la B G pr) (own := RL) (nL := 9) (q0 := 12) (ci := 3) [12, 13, 14, 15, 16, 17, 18, 19, 20, 21] [0, 1, 2, 3, 4, 5, 6, 7, 8, 9, 10, 11] [] (mX3_thrown l D cI mo z1 z2 z3 z4 z5 z6 z7 z8 z9 (nI N) hs cs mf ml M td lf laid piled prs (cCol (nI N) x1)) ⟨hx, hb, hml, hown, hts⟩ (cwV 0 hts gL_law_X3_thrown rfl rfl rfl (by decide +kernel) ⟨Nat.le_of_ble_eq_true rfl, Nat.le_of_ble_eq_true rfl⟩) pq_bl0 (fun _ _ _ => trivial) (hK.sub [0] rfl) hP hD hS hA rfl (by decide) rfl (by decide) (by decide) rfl rfl rfl rfl hl.1 rfl (Nat.le_of_ble_eq_true rfl) dL_law_646 ⟨by show n + 1 + 0 + 0 ≤ 601024; omega, by show sl + 6 + 0 + 0 ≤ 7293034; omega⟩ (fun v w1 H locs hq hP hD hS hz => ?_)
      obtain ⟨rfl, rfl⟩ := hq
      have hP : va_P D vwCl (lwW o fo q h a0 a1 a2 a3 a4 a5 g b0 b1 mo z1 z2 z3 z4 z5 z6 z7 z8 z9 cI cL fi la B G pr (nI N) hs cs mf ml M td lf laid piled prs (cCol (nI N) x1)) H := hP
      have hD : va_D (fun q : Nat => s.heap.size ≤ q) (lwW o fo q h a0 a1 a2 a3 a4 a5 g b0 b1 mo z1 z2 z3 z4 z5 z6 z7 z8 z9 cI cL fi la B G pr (nI N) hs cs mf ml M td lf laid piled prs (cCol (nI N) x1)) := hD
      refine W.eq (g2 := F0 m 649 ls [.int (cCol (nI N) x1)]) rfl ?_
      refine lv_iload hx hb dL_law_649 (lv_at hl 1 rfl) ?_
      refine lv_icmp_eq (tgt := 656) hx hb dL_law_651 (by decide) (fun _ => ?_) (fun c9 => absurd (by rw [hNN]) c9)
      refine lv_iload hx hb dL_law_656 (lv_at hl 1 rfl) ?_
      refine lv_if_ne (tgt := 673) hx hb dL_law_658 (by decide) (fun _ => ?_) (fun c9 => absurd c9 hne)
      refine lv_goto (tgt := 1291) hx hb dL_law_673 (by decide) ?_
      refine W.widen (k := n + 6) (n := sl + 36) (by omega) (by omega) ?_
      exact K _ H locs ls ⟨_, _, _, _, _, _, _, _, _, _, _, _, _, _, _, _, _, _, _, rfl, rfl, I, hg, hpr⟩ hP hD hS (lv_sub hl [2, 3, 4, 5, 6] rfl)
    · exact (hne (by rw [hNN]; exact hm0)).elim
