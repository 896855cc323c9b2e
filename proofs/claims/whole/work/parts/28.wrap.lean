set_option maxHeartbeats 4000000 in
set_option maxRecDepth 100000 in
theorem mL_layOut (l : Launch) (D : va_G) (cI cL : ClassId) (o : Nat) (fo : Nat → Int64) (q h a0 a1 a2 a3 a4 a5 g b0 b1 : Nat) (fi la : Nat → Int32) (B : BK) (G : GK) (pr : Int32) (N : Nat) (hfl : l.stackTraces = false) (hN : G.2.2.1 = nI N) (hN1 : 1 ≤ N) (hN2 : N ≤ 64) (n0 v0 : Int32) : pq_M l yL_layOut wsL_layOut 8 144 2 12 D [(cI, .int), (cL, .long)] pq_L ((o, .inl (cL, 1, .inr (.inl fo))) :: ppW q h a0 a1 a2 a3 a4 a5 g b0 b1 cI fi la B G pr) [.ref q, .int n0, .int v0, .ref o] (fun v w1 => (∃ (r : Int32) (wc : va_W), (fun (v : Option Value) (w1 : va_W) => v = some (.int (n0 * v0)) ∧ w1 = ppW q h a0 a1 a2 a3 a4 a5 g b0 b1 cI (sIter (upd fi 1 0, upd la 1 (n0 - 1)) 63).1 (sIter (upd fi 1 0, upd la 1 (n0 - 1)) 63).2 (bNew (sIter (upd fi 1 0, upd la 1 (n0 - 1)) 63) v0 B) (gFillH n0 v0 G.1 64, gFillC G.2.1 64, n0, n0 * v0) 0 ∧ cLay n0 v0 = 0) (some (.int r)) wc ∧ v = some (.int 0) ∧ w1 = (o, .inl (cL, 1, .inr (.inl (vp_updL fo 0 r.toInt64)))) :: wc) ∨ (cLay n0 v0 ≠ 0 ∧ v = some (.int (cLay n0 v0)) ∧ w1 = ((o, .inl (cL, 1, .inr (.inl fo))) :: ppW q h a0 a1 a2 a3 a4 a5 g b0 b1 cI fi la B G pr))) := by
  refine pq_lenter (cc := cL_layOut) (maxL := 5) (ret := (some .int)) (hh := [(0, 10, 13, 13)]) (by decide) rfl (Nat.le_of_ble_eq_true rfl) ?_
  intro p ev s m args below meth cd A ls Q H locs hx hb hr hml hts hown hlocks htab hK hP hD hS hA hE hl hQ
  have hl : lv_has ls 5 [(0, .ref q), (1, .int n0), (2, .int v0), (3, .ref o)] := hl
  have hP : va_P D vwCl [(o, .inl (cL, 1, .inr (.inl fo))), (q, .inr (2, [.ref h, .ref g, .int pr])), (h, .inr (0, [.ref a0, .ref a1, .ref a2, .ref a3, .ref a4, .ref a5, .int B.2.2.2.2.1, .int B.2.2.2.2.2.1, .int B.2.2.2.2.2.2])), (a0, .inl (cI, 128, .inl fi)), (a1, .inl (cI, 128, .inl la)), (a2, .inl (cI, 128, .inl B.1)), (a3, .inl (cI, 128, .inl B.2.1)), (a4, .inl (cI, 128, .inl B.2.2.1)), (a5, .inl (cI, 128, .inl B.2.2.2.1)), (g, .inr (1, [.ref b0, .ref b1, .int G.2.2.1, .int G.2.2.2])), (b0, .inl (cI, 64, .inl G.1)), (b1, .inl (cI, 64, .inl G.2.1))] H := hP
  have hD : va_D A [(o, .inl (cL, 1, .inr (.inl fo))), (q, .inr (2, [.ref h, .ref g, .int pr])), (h, .inr (0, [.ref a0, .ref a1, .ref a2, .ref a3, .ref a4, .ref a5, .int B.2.2.2.2.1, .int B.2.2.2.2.2.1, .int B.2.2.2.2.2.2])), (a0, .inl (cI, 128, .inl fi)), (a1, .inl (cI, 128, .inl la)), (a2, .inl (cI, 128, .inl B.1)), (a3, .inl (cI, 128, .inl B.2.1)), (a4, .inl (cI, 128, .inl B.2.2.1)), (a5, .inl (cI, 128, .inl B.2.2.2.1)), (g, .inr (1, [.ref b0, .ref b1, .int G.2.2.1, .int G.2.2.2])), (b0, .inl (cI, 64, .inl G.1)), (b1, .inl (cI, 64, .inl G.2.1))] := hD
  refine lv_aload_n hx hb dL_layOut_0 rfl (lv_at hl 3 rfl) ?_
  refine lv_iconst (v := 0) hx hb dL_layOut_1 (by decide) ?_
  refine lv_aload_n hx hb dL_layOut_2 rfl (lv_at hl 0 rfl) ?_
  refine lv_iload_n hx hb dL_layOut_3 rfl (lv_at hl 1 rfl) ?_
  refine lv_iload_n hx hb dL_layOut_4 rfl (lv_at hl 2 rfl) ?_
  refine px_callV (wr := [(o, .inl (cL, 1, .inr (.inl fo)))]) (own := RL) (nL := 5) (q0 := 1) (ci := 2) [1, 2, 3, 4, 5, 6, 7, 8, 9, 10, 11] [0] [.int n0, .int v0] (mX2_layOut l D cI q h a0 a1 a2 a3 a4 a5 g b0 b1 fi la B G pr N hfl hN hN1 hN2 n0 v0) ⟨hx, hb, hml, hown, hts⟩ (cwV 2 hts gL_layOut_X2_layOut rfl rfl rfl (by decide +kernel) ⟨by dsimp only [pq_R]; omega, by dsimp only [pq_R]; omega⟩) pq_blE (hE.1.call hD hS hA [1, 2, 3, 4, 5, 6, 7, 8, 9, 10, 11] rfl) (hK.sub [0] rfl) hP hD hS hA rfl (by decide) rfl (by decide) (by decide) rfl rfl rfl rfl hl.1 rfl (Nat.le_of_ble_eq_true rfl) dL_layOut_5 ⟨by dsimp only [pq_R]; omega, by dsimp only [pq_R]; omega⟩ (fun Ex ce q9 w1 H locs hq hP hD hS hce hcv hcl => ?_) (fun v w1 H locs hq hP hD hS hz => ?_)
  · obtain ⟨rfl, hbad⟩ := hq
    have hP : va_P D vwCl [(o, .inl (cL, 1, .inr (.inl fo))), (q, .inr (2, [.ref h, .ref g, .int pr])), (h, .inr (0, [.ref a0, .ref a1, .ref a2, .ref a3, .ref a4, .ref a5, .int B.2.2.2.2.1, .int B.2.2.2.2.2.1, .int B.2.2.2.2.2.2])), (a0, .inl (cI, 128, .inl fi)), (a1, .inl (cI, 128, .inl la)), (a2, .inl (cI, 128, .inl B.1)), (a3, .inl (cI, 128, .inl B.2.1)), (a4, .inl (cI, 128, .inl B.2.2.1)), (a5, .inl (cI, 128, .inl B.2.2.2.1)), (g, .inr (1, [.ref b0, .ref b1, .int G.2.2.1, .int G.2.2.2])), (b0, .inl (cI, 64, .inl G.1)), (b1, .inl (cI, 64, .inl G.2.1))] H := hP
    have hD : va_D A [(o, .inl (cL, 1, .inr (.inl fo))), (q, .inr (2, [.ref h, .ref g, .int pr])), (h, .inr (0, [.ref a0, .ref a1, .ref a2, .ref a3, .ref a4, .ref a5, .int B.2.2.2.2.1, .int B.2.2.2.2.2.1, .int B.2.2.2.2.2.2])), (a0, .inl (cI, 128, .inl fi)), (a1, .inl (cI, 128, .inl la)), (a2, .inl (cI, 128, .inl B.1)), (a3, .inl (cI, 128, .inl B.2.1)), (a4, .inl (cI, 128, .inl B.2.2.1)), (a5, .inl (cI, 128, .inl B.2.2.2.1)), (g, .inr (1, [.ref b0, .ref b1, .int G.2.2.1, .int G.2.2.2])), (b0, .inl (cI, 64, .inl G.1)), (b1, .inl (cI, 64, .inl G.2.1))] := hD
    obtain ⟨hcd, rfl⟩ := hbad
    refine vx_catch (name := "java/lang/IllegalArgumentException") hown [] ⟨0, 10, 13, 13⟩ [] (htab.trans rfl) (fun _ h => nomatch h) (by decide) (by decide) (hts (.classLink RL 13 "java/lang/IllegalArgumentException") (by decide +kernel)) (va_Nw.use rfl (hE.1.1.2.1 _ (List.mem_of_getElem? (i := 3) rfl))) hce hcv hcl ?_
    refine W.widen (k := 2) (n := 12) (by omega) (by omega) ?_
    refine lv_astore (lv' := [(4, .ref q9), (0, .ref q), (1, .int n0), (2, .int v0), (3, .ref o)]) hx hb dL_layOut_13 hl (by decide) rfl (fun ls hl => ?_)
    refine lv_iconst (v := 1) hx hb dL_layOut_15 (by decide) ?_
    exact pq_iret hQ hx hb hr hlocks hK hS hP hD dL_layOut_16 (by omega) (by omega) (Or.inr ⟨by rw [hcd]; decide, by rw [hcd], rfl⟩)
  · obtain ⟨r, hv⟩ : ∃ r : Int32, v = some (.int r) := ⟨_, hq.1⟩
    subst hv
    have hP : va_P D vwCl ((o, .inl (cL, 1, .inr (.inl fo))) :: w1) H := hP
    have hD : va_D A ((o, .inl (cL, 1, .inr (.inl fo))) :: w1) := hD
    refine W.widen (k := 2) (n := 12) (by omega) (by omega) ?_
    refine W.eq (g2 := F0 m 8 ls [.int r, .int 0, .ref o]) rfl ?_
    refine lv_i2l hx hb dL_layOut_8 rfl ?_
    refine pq_last hx hb hK hP hD hS 0 1 rfl rfl dL_layOut_9 (fun H locs hP hD hS => ?_)
    have hP : va_P D vwCl ((o, .inl (cL, 1, .inr (.inl (vp_updL fo 0 r.toInt64)))) :: w1) H := hP
    have hD : va_D A ((o, .inl (cL, 1, .inr (.inl (vp_updL fo 0 r.toInt64)))) :: w1) := hD
    refine lv_goto (tgt := 17) hx hb dL_layOut_10 (by decide) ?_
    refine lv_iconst (v := 0) hx hb dL_layOut_17 (by decide) ?_
    exact pq_iret hQ hx hb hr hlocks hK hS hP hD dL_layOut_18 (by omega) (by omega) (Or.inl ⟨r, w1, hq, rfl, rfl⟩)

set_option maxHeartbeats 4000000 in
set_option maxRecDepth 100000 in
theorem mL_pile (l : Launch) (D : va_G) (cI cL : ClassId) (o : Nat) (fo : Nat → Int64) (q h a0 a1 a2 a3 a4 a5 g b0 b1 : Nat) (fi la : Nat → Int32) (B : BK) (G : GK) (pr : Int32) (N : Nat) (hfl : l.stackTraces = false) (hN : G.2.2.1 = nI N) (hN1 : 1 ≤ N) (hN2 : N ≤ 64) (x w0 : Int32) : pq_M l yL_pile wsL_pile 14 325 3 18 D [(cI, .int), (cL, .long)] pq_L ((o, .inl (cL, 1, .inr (.inl fo))) :: ppW q h a0 a1 a2 a3 a4 a5 g b0 b1 cI fi la B G pr) [.ref q, .int x, .int w0, .ref o] (fun v w1 => (∃ (r : Int32) (wc : va_W), (fun (v : Option Value) (w1 : va_W) => ∃ k, x = nI k ∧ k < N ∧ v = some (.int (G.1 k + w0)) ∧ w1 = ppW q h a0 a1 a2 a3 a4 a5 g b0 b1 cI fi la (bRaiseFrom fi la (nI k) (G.1 k + w0) 7 (bBegin B) 1) (upd G.1 k (G.1 k + w0), upd G.2.1 k (-1), G.2.2.1, G.2.2.2 + w0) pr ∧ cPile G.2.2.1 G.1 x w0 = 0) (some (.int r)) wc ∧ v = some (.int 0) ∧ w1 = (o, .inl (cL, 1, .inr (.inl (vp_updL fo 0 r.toInt64)))) :: wc) ∨ (cPile G.2.2.1 G.1 x w0 ≠ 0 ∧ v = some (.int (cPile G.2.2.1 G.1 x w0)) ∧ w1 = ((o, .inl (cL, 1, .inr (.inl fo))) :: ppW q h a0 a1 a2 a3 a4 a5 g b0 b1 cI fi la B G pr))) := by
  refine pq_lenter (cc := cL_pile) (maxL := 5) (ret := (some .int)) (hh := [(0, 10, 13, 18), (0, 10, 17, 13), (0, 10, 21, 20)]) (by decide) rfl (Nat.le_of_ble_eq_true rfl) ?_
  intro p ev s m args below meth cd A ls Q H locs hx hb hr hml hts hown hlocks htab hK hP hD hS hA hE hl hQ
  have hl : lv_has ls 5 [(0, .ref q), (1, .int x), (2, .int w0), (3, .ref o)] := hl
  have hP : va_P D vwCl [(o, .inl (cL, 1, .inr (.inl fo))), (q, .inr (2, [.ref h, .ref g, .int pr])), (h, .inr (0, [.ref a0, .ref a1, .ref a2, .ref a3, .ref a4, .ref a5, .int B.2.2.2.2.1, .int B.2.2.2.2.2.1, .int B.2.2.2.2.2.2])), (a0, .inl (cI, 128, .inl fi)), (a1, .inl (cI, 128, .inl la)), (a2, .inl (cI, 128, .inl B.1)), (a3, .inl (cI, 128, .inl B.2.1)), (a4, .inl (cI, 128, .inl B.2.2.1)), (a5, .inl (cI, 128, .inl B.2.2.2.1)), (g, .inr (1, [.ref b0, .ref b1, .int G.2.2.1, .int G.2.2.2])), (b0, .inl (cI, 64, .inl G.1)), (b1, .inl (cI, 64, .inl G.2.1))] H := hP
  have hD : va_D A [(o, .inl (cL, 1, .inr (.inl fo))), (q, .inr (2, [.ref h, .ref g, .int pr])), (h, .inr (0, [.ref a0, .ref a1, .ref a2, .ref a3, .ref a4, .ref a5, .int B.2.2.2.2.1, .int B.2.2.2.2.2.1, .int B.2.2.2.2.2.2])), (a0, .inl (cI, 128, .inl fi)), (a1, .inl (cI, 128, .inl la)), (a2, .inl (cI, 128, .inl B.1)), (a3, .inl (cI, 128, .inl B.2.1)), (a4, .inl (cI, 128, .inl B.2.2.1)), (a5, .inl (cI, 128, .inl B.2.2.2.1)), (g, .inr (1, [.ref b0, .ref b1, .int G.2.2.1, .int G.2.2.2])), (b0, .inl (cI, 64, .inl G.1)), (b1, .inl (cI, 64, .inl G.2.1))] := hD
  refine lv_aload_n hx hb dL_pile_0 rfl (lv_at hl 3 rfl) ?_
  refine lv_iconst (v := 0) hx hb dL_pile_1 (by decide) ?_
  refine lv_aload_n hx hb dL_pile_2 rfl (lv_at hl 0 rfl) ?_
  refine lv_iload_n hx hb dL_pile_3 rfl (lv_at hl 1 rfl) ?_
  refine lv_iload_n hx hb dL_pile_4 rfl (lv_at hl 2 rfl) ?_
  refine px_callV (wr := [(o, .inl (cL, 1, .inr (.inl fo)))]) (own := RL) (nL := 5) (q0 := 1) (ci := 2) [1, 2, 3, 4, 5, 6, 7, 8, 9, 10, 11] [0] [.int x, .int w0] (mX2_pile l D cI q h a0 a1 a2 a3 a4 a5 g b0 b1 fi la B G pr N hfl hN hN1 hN2 x w0) ⟨hx, hb, hml, hown, hts⟩ (cwV 2 hts gL_pile_X2_pile rfl rfl rfl (by decide +kernel) ⟨by dsimp only [pq_R]; omega, by dsimp only [pq_R]; omega⟩) pq_blE (hE.1.call hD hS hA [1, 2, 3, 4, 5, 6, 7, 8, 9, 10, 11] rfl) (hK.sub [0] rfl) hP hD hS hA rfl (by decide) rfl (by decide) (by decide) rfl rfl rfl rfl hl.1 rfl (Nat.le_of_ble_eq_true rfl) dL_pile_5 ⟨by dsimp only [pq_R]; omega, by dsimp only [pq_R]; omega⟩ (fun Ex ce q9 w1 H locs hq hP hD hS hce hcv hcl => ?_) (fun v w1 H locs hq hP hD hS hz => ?_)
  · obtain ⟨rfl, hbad⟩ := hq
    have hP : va_P D vwCl [(o, .inl (cL, 1, .inr (.inl fo))), (q, .inr (2, [.ref h, .ref g, .int pr])), (h, .inr (0, [.ref a0, .ref a1, .ref a2, .ref a3, .ref a4, .ref a5, .int B.2.2.2.2.1, .int B.2.2.2.2.2.1, .int B.2.2.2.2.2.2])), (a0, .inl (cI, 128, .inl fi)), (a1, .inl (cI, 128, .inl la)), (a2, .inl (cI, 128, .inl B.1)), (a3, .inl (cI, 128, .inl B.2.1)), (a4, .inl (cI, 128, .inl B.2.2.1)), (a5, .inl (cI, 128, .inl B.2.2.2.1)), (g, .inr (1, [.ref b0, .ref b1, .int G.2.2.1, .int G.2.2.2])), (b0, .inl (cI, 64, .inl G.1)), (b1, .inl (cI, 64, .inl G.2.1))] H := hP
    have hD : va_D A [(o, .inl (cL, 1, .inr (.inl fo))), (q, .inr (2, [.ref h, .ref g, .int pr])), (h, .inr (0, [.ref a0, .ref a1, .ref a2, .ref a3, .ref a4, .ref a5, .int B.2.2.2.2.1, .int B.2.2.2.2.2.1, .int B.2.2.2.2.2.2])), (a0, .inl (cI, 128, .inl fi)), (a1, .inl (cI, 128, .inl la)), (a2, .inl (cI, 128, .inl B.1)), (a3, .inl (cI, 128, .inl B.2.1)), (a4, .inl (cI, 128, .inl B.2.2.1)), (a5, .inl (cI, 128, .inl B.2.2.2.1)), (g, .inr (1, [.ref b0, .ref b1, .int G.2.2.1, .int G.2.2.2])), (b0, .inl (cI, 64, .inl G.1)), (b1, .inl (cI, 64, .inl G.2.1))] := hD
    rcases hbad with ⟨hcd, rfl⟩ | ⟨hcd, rfl⟩ | ⟨hcd, rfl⟩
    · refine vx_catch (name := "java/lang/IndexOutOfBoundsException") hown [] ⟨0, 10, 13, 18⟩ [⟨0, 10, 17, 13⟩, ⟨0, 10, 21, 20⟩] (htab.trans rfl) (fun _ h => nomatch h) (by decide) (by decide) (hts (.classLink RL 18 "java/lang/IndexOutOfBoundsException") (by decide +kernel)) (va_Nw.use rfl (hE.1.1.2.1 _ (List.mem_of_getElem? (i := 4) rfl))) hce hcv hcl ?_
      refine W.widen (k := 3) (n := 18) (by omega) (by omega) ?_
      refine lv_astore (lv' := [(4, .ref q9), (0, .ref q), (1, .int x), (2, .int w0), (3, .ref o)]) hx hb dL_pile_13 hl (by decide) rfl (fun ls hl => ?_)
      refine lv_iconst (v := 1) hx hb dL_pile_15 (by decide) ?_
      exact pq_iret hQ hx hb hr hlocks hK hS hP hD dL_pile_16 (by omega) (by omega) (Or.inr ⟨by rw [hcd]; decide, by rw [hcd], rfl⟩)
    · refine vx_catch (name := "java/lang/IllegalArgumentException") hown [⟨0, 10, 13, 18⟩] ⟨0, 10, 17, 13⟩ [⟨0, 10, 21, 20⟩] (htab.trans rfl) (List.forall_mem_cons.mpr ⟨Or.inr ⟨by decide, "java/lang/IndexOutOfBoundsException", hts (.classLink RL 18 "java/lang/IndexOutOfBoundsException") (by decide +kernel), hE.2.1⟩, fun _ h => nomatch h⟩) (by decide) (by decide) (hts (.classLink RL 13 "java/lang/IllegalArgumentException") (by decide +kernel)) (va_Nw.use rfl (hE.1.1.2.1 _ (List.mem_of_getElem? (i := 3) rfl))) hce hcv hcl ?_
      refine W.widen (k := 3) (n := 18) (by omega) (by omega) ?_
      refine lv_astore (lv' := [(4, .ref q9), (0, .ref q), (1, .int x), (2, .int w0), (3, .ref o)]) hx hb dL_pile_17 hl (by decide) rfl (fun ls hl => ?_)
      refine lv_iconst (v := 2) hx hb dL_pile_19 (by decide) ?_
      exact pq_iret hQ hx hb hr hlocks hK hS hP hD dL_pile_20 (by omega) (by omega) (Or.inr ⟨by rw [hcd]; decide, by rw [hcd], rfl⟩)
    · refine vx_catch (name := "java/lang/IllegalStateException") hown [⟨0, 10, 13, 18⟩, ⟨0, 10, 17, 13⟩] ⟨0, 10, 21, 20⟩ [] (htab.trans rfl) (List.forall_mem_cons.mpr ⟨Or.inr ⟨by decide, "java/lang/IndexOutOfBoundsException", hts (.classLink RL 18 "java/lang/IndexOutOfBoundsException") (by decide +kernel), hE.2.2.1⟩, List.forall_mem_cons.mpr ⟨Or.inr ⟨by decide, "java/lang/IllegalArgumentException", hts (.classLink RL 13 "java/lang/IllegalArgumentException") (by decide +kernel), hE.2.2.2.1⟩, fun _ h => nomatch h⟩⟩) (by decide) (by decide) (hts (.classLink RL 20 "java/lang/IllegalStateException") (by decide +kernel)) (va_Nw.use rfl (hE.1.1.2.1 _ (List.mem_of_getElem? (i := 5) rfl))) hce hcv hcl ?_
      refine W.widen (k := 3) (n := 18) (by omega) (by omega) ?_
      refine lv_astore (lv' := [(4, .ref q9), (0, .ref q), (1, .int x), (2, .int w0), (3, .ref o)]) hx hb dL_pile_21 hl (by decide) rfl (fun ls hl => ?_)
      refine lv_iconst (v := 3) hx hb dL_pile_23 (by decide) ?_
      exact pq_iret hQ hx hb hr hlocks hK hS hP hD dL_pile_24 (by omega) (by omega) (Or.inr ⟨by rw [hcd]; decide, by rw [hcd], rfl⟩)
  · obtain ⟨r, hv⟩ : ∃ r : Int32, v = some (.int r) := (by obtain ⟨k, -, -, h, -⟩ := hq; exact ⟨_, h⟩)
    subst hv
    have hP : va_P D vwCl ((o, .inl (cL, 1, .inr (.inl fo))) :: w1) H := hP
    have hD : va_D A ((o, .inl (cL, 1, .inr (.inl fo))) :: w1) := hD
    refine W.widen (k := 3) (n := 18) (by omega) (by omega) ?_
    refine W.eq (g2 := F0 m 8 ls [.int r, .int 0, .ref o]) rfl ?_
    refine lv_i2l hx hb dL_pile_8 rfl ?_
    refine pq_last hx hb hK hP hD hS 0 1 rfl rfl dL_pile_9 (fun H locs hP hD hS => ?_)
    have hP : va_P D vwCl ((o, .inl (cL, 1, .inr (.inl (vp_updL fo 0 r.toInt64)))) :: w1) H := hP
    have hD : va_D A ((o, .inl (cL, 1, .inr (.inl (vp_updL fo 0 r.toInt64)))) :: w1) := hD
    refine lv_goto (tgt := 25) hx hb dL_pile_10 (by decide) ?_
    refine lv_iconst (v := 0) hx hb dL_pile_25 (by decide) ?_
    exact pq_iret hQ hx hb hr hlocks hK hS hP hD dL_pile_26 (by omega) (by omega) (Or.inl ⟨r, w1, hq, rfl, rfl⟩)

set_option maxHeartbeats 4000000 in
set_option maxRecDepth 100000 in
theorem mL_lower (l : Launch) (D : va_G) (cI cL : ClassId) (o : Nat) (fo : Nat → Int64) (q h a0 a1 a2 a3 a4 a5 g b0 b1 : Nat) (fi la : Nat → Int32) (B : BK) (G : GK) (pr : Int32) (N : Nat) (hfl : l.stackTraces = false) (hN : G.2.2.1 = nI N) (hN1 : 1 ≤ N) (hN2 : N ≤ 64) (x y c0 : Int32) : pq_M l yL_lower wsL_lower 14 337 4 24 D [(cI, .int), (cL, .long)] pq_L ((o, .inl (cL, 1, .inr (.inl fo))) :: ppW q h a0 a1 a2 a3 a4 a5 g b0 b1 cI fi la B G pr) [.ref q, .int x, .int y, .int c0, .ref o] (fun v w1 => (∃ (r : Int32) (wc : va_W), (fun (v : Option Value) (w1 : va_W) => ∃ kf kt, x = nI kf ∧ y = nI kt ∧ kf ≤ kt ∧ kt < N ∧ v = some (.int (B.2.2.2.1 1 - (bPressFrom fi la (nI kf) (nI kt) c0 7 (bBegin B) 1).2.2.2.1 1)) ∧ w1 = ppW q h a0 a1 a2 a3 a4 a5 g b0 b1 cI fi la (bPressFrom fi la (nI kf) (nI kt) c0 7 (bBegin B) 1) (gPressH c0 kf G.1 (kt + 1 - kf), gPressC c0 kf G.2.1 (kt + 1 - kf), G.2.2.1, G.2.2.2) (pr + (B.2.2.2.1 1 - (bPressFrom fi la (nI kf) (nI kt) c0 7 (bBegin B) 1).2.2.2.1 1)) ∧ cLow G.2.2.1 x y c0 0 1000 = 0) (some (.int r)) wc ∧ v = some (.int 0) ∧ w1 = (o, .inl (cL, 1, .inr (.inl (vp_updL fo 0 r.toInt64)))) :: wc) ∨ (cLow G.2.2.1 x y c0 0 1000 ≠ 0 ∧ v = some (.int (cLow G.2.2.1 x y c0 0 1000)) ∧ w1 = ((o, .inl (cL, 1, .inr (.inl fo))) :: ppW q h a0 a1 a2 a3 a4 a5 g b0 b1 cI fi la B G pr))) := by
  refine pq_lenter (cc := cL_lower) (maxL := 6) (ret := (some .int)) (hh := [(0, 12, 15, 18), (0, 12, 19, 13)]) (by decide) rfl (Nat.le_of_ble_eq_true rfl) ?_
  intro p ev s m args below meth cd A ls Q H locs hx hb hr hml hts hown hlocks htab hK hP hD hS hA hE hl hQ
  have hl : lv_has ls 6 [(0, .ref q), (1, .int x), (2, .int y), (3, .int c0), (4, .ref o)] := hl
  have hP : va_P D vwCl [(o, .inl (cL, 1, .inr (.inl fo))), (q, .inr (2, [.ref h, .ref g, .int pr])), (h, .inr (0, [.ref a0, .ref a1, .ref a2, .ref a3, .ref a4, .ref a5, .int B.2.2.2.2.1, .int B.2.2.2.2.2.1, .int B.2.2.2.2.2.2])), (a0, .inl (cI, 128, .inl fi)), (a1, .inl (cI, 128, .inl la)), (a2, .inl (cI, 128, .inl B.1)), (a3, .inl (cI, 128, .inl B.2.1)), (a4, .inl (cI, 128, .inl B.2.2.1)), (a5, .inl (cI, 128, .inl B.2.2.2.1)), (g, .inr (1, [.ref b0, .ref b1, .int G.2.2.1, .int G.2.2.2])), (b0, .inl (cI, 64, .inl G.1)), (b1, .inl (cI, 64, .inl G.2.1))] H := hP
  have hD : va_D A [(o, .inl (cL, 1, .inr (.inl fo))), (q, .inr (2, [.ref h, .ref g, .int pr])), (h, .inr (0, [.ref a0, .ref a1, .ref a2, .ref a3, .ref a4, .ref a5, .int B.2.2.2.2.1, .int B.2.2.2.2.2.1, .int B.2.2.2.2.2.2])), (a0, .inl (cI, 128, .inl fi)), (a1, .inl (cI, 128, .inl la)), (a2, .inl (cI, 128, .inl B.1)), (a3, .inl (cI, 128, .inl B.2.1)), (a4, .inl (cI, 128, .inl B.2.2.1)), (a5, .inl (cI, 128, .inl B.2.2.2.1)), (g, .inr (1, [.ref b0, .ref b1, .int G.2.2.1, .int G.2.2.2])), (b0, .inl (cI, 64, .inl G.1)), (b1, .inl (cI, 64, .inl G.2.1))] := hD
  refine lv_aload hx hb dL_lower_0 (lv_at hl 4 rfl) ?_
  refine lv_iconst (v := 0) hx hb dL_lower_2 (by decide) ?_
  refine lv_aload_n hx hb dL_lower_3 rfl (lv_at hl 0 rfl) ?_
  refine lv_iload_n hx hb dL_lower_4 rfl (lv_at hl 1 rfl) ?_
  refine lv_iload_n hx hb dL_lower_5 rfl (lv_at hl 2 rfl) ?_
  refine lv_iload_n hx hb dL_lower_6 rfl (lv_at hl 3 rfl) ?_
  refine px_callV (wr := [(o, .inl (cL, 1, .inr (.inl fo)))]) (own := RL) (nL := 6) (q0 := 1) (ci := 2) [1, 2, 3, 4, 5, 6, 7, 8, 9, 10, 11] [0] [.int x, .int y, .int c0] (mX2_lower l D cI q h a0 a1 a2 a3 a4 a5 g b0 b1 fi la B G pr N hfl hN hN1 hN2 x y c0) ⟨hx, hb, hml, hown, hts⟩ (cwV 3 hts gL_lower_X2_lower rfl rfl rfl (by decide +kernel) ⟨by dsimp only [pq_R]; omega, by dsimp only [pq_R]; omega⟩) pq_blE (hE.1.call hD hS hA [1, 2, 3, 4, 5, 6, 7, 8, 9, 10, 11] rfl) (hK.sub [0] rfl) hP hD hS hA rfl (by decide) rfl (by decide) (by decide) rfl rfl rfl rfl hl.1 rfl (Nat.le_of_ble_eq_true rfl) dL_lower_7 ⟨by dsimp only [pq_R]; omega, by dsimp only [pq_R]; omega⟩ (fun Ex ce q9 w1 H locs hq hP hD hS hce hcv hcl => ?_) (fun v w1 H locs hq hP hD hS hz => ?_)
  · obtain ⟨rfl, hbad⟩ := hq
    have hP : va_P D vwCl [(o, .inl (cL, 1, .inr (.inl fo))), (q, .inr (2, [.ref h, .ref g, .int pr])), (h, .inr (0, [.ref a0, .ref a1, .ref a2, .ref a3, .ref a4, .ref a5, .int B.2.2.2.2.1, .int B.2.2.2.2.2.1, .int B.2.2.2.2.2.2])), (a0, .inl (cI, 128, .inl fi)), (a1, .inl (cI, 128, .inl la)), (a2, .inl (cI, 128, .inl B.1)), (a3, .inl (cI, 128, .inl B.2.1)), (a4, .inl (cI, 128, .inl B.2.2.1)), (a5, .inl (cI, 128, .inl B.2.2.2.1)), (g, .inr (1, [.ref b0, .ref b1, .int G.2.2.1, .int G.2.2.2])), (b0, .inl (cI, 64, .inl G.1)), (b1, .inl (cI, 64, .inl G.2.1))] H := hP
    have hD : va_D A [(o, .inl (cL, 1, .inr (.inl fo))), (q, .inr (2, [.ref h, .ref g, .int pr])), (h, .inr (0, [.ref a0, .ref a1, .ref a2, .ref a3, .ref a4, .ref a5, .int B.2.2.2.2.1, .int B.2.2.2.2.2.1, .int B.2.2.2.2.2.2])), (a0, .inl (cI, 128, .inl fi)), (a1, .inl (cI, 128, .inl la)), (a2, .inl (cI, 128, .inl B.1)), (a3, .inl (cI, 128, .inl B.2.1)), (a4, .inl (cI, 128, .inl B.2.2.1)), (a5, .inl (cI, 128, .inl B.2.2.2.1)), (g, .inr (1, [.ref b0, .ref b1, .int G.2.2.1, .int G.2.2.2])), (b0, .inl (cI, 64, .inl G.1)), (b1, .inl (cI, 64, .inl G.2.1))] := hD
    rcases hbad with ⟨hcd, rfl⟩ | ⟨hcd, rfl⟩
    · refine vx_catch (name := "java/lang/IndexOutOfBoundsException") hown [] ⟨0, 12, 15, 18⟩ [⟨0, 12, 19, 13⟩] (htab.trans rfl) (fun _ h => nomatch h) (by decide) (by decide) (hts (.classLink RL 18 "java/lang/IndexOutOfBoundsException") (by decide +kernel)) (va_Nw.use rfl (hE.1.1.2.1 _ (List.mem_of_getElem? (i := 4) rfl))) hce hcv hcl ?_
      refine W.widen (k := 4) (n := 24) (by omega) (by omega) ?_
      refine lv_astore (lv' := [(5, .ref q9), (0, .ref q), (1, .int x), (2, .int y), (3, .int c0), (4, .ref o)]) hx hb dL_lower_15 hl (by decide) rfl (fun ls hl => ?_)
      refine lv_iconst (v := 1) hx hb dL_lower_17 (by decide) ?_
      exact pq_iret hQ hx hb hr hlocks hK hS hP hD dL_lower_18 (by omega) (by omega) (Or.inr ⟨by rw [hcd]; decide, by rw [hcd], rfl⟩)
    · refine vx_catch (name := "java/lang/IllegalArgumentException") hown [⟨0, 12, 15, 18⟩] ⟨0, 12, 19, 13⟩ [] (htab.trans rfl) (List.forall_mem_cons.mpr ⟨Or.inr ⟨by decide, "java/lang/IndexOutOfBoundsException", hts (.classLink RL 18 "java/lang/IndexOutOfBoundsException") (by decide +kernel), hE.2.1⟩, fun _ h => nomatch h⟩) (by decide) (by decide) (hts (.classLink RL 13 "java/lang/IllegalArgumentException") (by decide +kernel)) (va_Nw.use rfl (hE.1.1.2.1 _ (List.mem_of_getElem? (i := 3) rfl))) hce hcv hcl ?_
      refine W.widen (k := 4) (n := 24) (by omega) (by omega) ?_
      refine lv_astore (lv' := [(5, .ref q9), (0, .ref q), (1, .int x), (2, .int y), (3, .int c0), (4, .ref o)]) hx hb dL_lower_19 hl (by decide) rfl (fun ls hl => ?_)
      refine lv_iconst (v := 2) hx hb dL_lower_21 (by decide) ?_
      exact pq_iret hQ hx hb hr hlocks hK hS hP hD dL_lower_22 (by omega) (by omega) (Or.inr ⟨by rw [hcd]; decide, by rw [hcd], rfl⟩)
  · obtain ⟨r, hv⟩ : ∃ r : Int32, v = some (.int r) := (by obtain ⟨kf, kt, -, -, -, -, h, -⟩ := hq; exact ⟨_, h⟩)
    subst hv
    have hP : va_P D vwCl ((o, .inl (cL, 1, .inr (.inl fo))) :: w1) H := hP
    have hD : va_D A ((o, .inl (cL, 1, .inr (.inl fo))) :: w1) := hD
    refine W.widen (k := 4) (n := 24) (by omega) (by omega) ?_
    refine W.eq (g2 := F0 m 10 ls [.int r, .int 0, .ref o]) rfl ?_
    refine lv_i2l hx hb dL_lower_10 rfl ?_
    refine pq_last hx hb hK hP hD hS 0 1 rfl rfl dL_lower_11 (fun H locs hP hD hS => ?_)
    have hP : va_P D vwCl ((o, .inl (cL, 1, .inr (.inl (vp_updL fo 0 r.toInt64)))) :: w1) H := hP
    have hD : va_D A ((o, .inl (cL, 1, .inr (.inl (vp_updL fo 0 r.toInt64)))) :: w1) := hD
    refine lv_goto (tgt := 23) hx hb dL_lower_12 (by decide) ?_
    refine lv_iconst (v := 0) hx hb dL_lower_23 (by decide) ?_
    exact pq_iret hQ hx hb hr hlocks hK hS hP hD dL_lower_24 (by omega) (by omega) (Or.inl ⟨r, w1, hq, rfl, rfl⟩)

set_option maxHeartbeats 4000000 in
set_option maxRecDepth 100000 in
theorem mL_earth (l : Launch) (D : va_G) (cI cL : ClassId) (o : Nat) (fo : Nat → Int64) (q h a0 a1 a2 a3 a4 a5 g b0 b1 : Nat) (fi la : Nat → Int32) (B : BK) (G : GK) (pr : Int32) (N : Nat) (hfl : l.stackTraces = false) (hN : G.2.2.1 = nI N) (hN1 : 1 ≤ N) (hN2 : N ≤ 64) (x y : Int32) : pq_M l yL_earth wsL_earth 14 315 3 18 D [(cI, .int), (cL, .long)] pq_L ((o, .inl (cL, 1, .inr (.inl fo))) :: ppW q h a0 a1 a2 a3 a4 a5 g b0 b1 cI fi la B G pr) [.ref q, .int x, .int y, .ref o] (fun v w1 => (∃ (r : Int32) (wc : va_W), (fun (v : Option Value) (w1 : va_W) => ∃ kf kt, x = nI kf ∧ y = nI kt ∧ kf ≤ kt ∧ kt < N ∧ v = some (.int (bSumFrom fi la (nI kf) (nI kt) 7 (bBegin B) 1).1) ∧ w1 = ppW q h a0 a1 a2 a3 a4 a5 g b0 b1 cI fi la (bSumFrom fi la (nI kf) (nI kt) 7 (bBegin B) 1).2 G pr ∧ cSpan G.2.2.1 x y = 0) (some (.int r)) wc ∧ v = some (.int 0) ∧ w1 = (o, .inl (cL, 1, .inr (.inl (vp_updL fo 0 r.toInt64)))) :: wc) ∨ (cSpan G.2.2.1 x y ≠ 0 ∧ v = some (.int (cSpan G.2.2.1 x y)) ∧ w1 = ((o, .inl (cL, 1, .inr (.inl fo))) :: ppW q h a0 a1 a2 a3 a4 a5 g b0 b1 cI fi la B G pr))) := by
  refine pq_lenter (cc := cL_earth) (maxL := 5) (ret := (some .int)) (hh := [(0, 10, 13, 18), (0, 10, 17, 13)]) (by decide) rfl (Nat.le_of_ble_eq_true rfl) ?_
  intro p ev s m args below meth cd A ls Q H locs hx hb hr hml hts hown hlocks htab hK hP hD hS hA hE hl hQ
  have hl : lv_has ls 5 [(0, .ref q), (1, .int x), (2, .int y), (3, .ref o)] := hl
  have hP : va_P D vwCl [(o, .inl (cL, 1, .inr (.inl fo))), (q, .inr (2, [.ref h, .ref g, .int pr])), (h, .inr (0, [.ref a0, .ref a1, .ref a2, .ref a3, .ref a4, .ref a5, .int B.2.2.2.2.1, .int B.2.2.2.2.2.1, .int B.2.2.2.2.2.2])), (a0, .inl (cI, 128, .inl fi)), (a1, .inl (cI, 128, .inl la)), (a2, .inl (cI, 128, .inl B.1)), (a3, .inl (cI, 128, .inl B.2.1)), (a4, .inl (cI, 128, .inl B.2.2.1)), (a5, .inl (cI, 128, .inl B.2.2.2.1)), (g, .inr (1, [.ref b0, .ref b1, .int G.2.2.1, .int G.2.2.2])), (b0, .inl (cI, 64, .inl G.1)), (b1, .inl (cI, 64, .inl G.2.1))] H := hP
  have hD : va_D A [(o, .inl (cL, 1, .inr (.inl fo))), (q, .inr (2, [.ref h, .ref g, .int pr])), (h, .inr (0, [.ref a0, .ref a1, .ref a2, .ref a3, .ref a4, .ref a5, .int B.2.2.2.2.1, .int B.2.2.2.2.2.1, .int B.2.2.2.2.2.2])), (a0, .inl (cI, 128, .inl fi)), (a1, .inl (cI, 128, .inl la)), (a2, .inl (cI, 128, .inl B.1)), (a3, .inl (cI, 128, .inl B.2.1)), (a4, .inl (cI, 128, .inl B.2.2.1)), (a5, .inl (cI, 128, .inl B.2.2.2.1)), (g, .inr (1, [.ref b0, .ref b1, .int G.2.2.1, .int G.2.2.2])), (b0, .inl (cI, 64, .inl G.1)), (b1, .inl (cI, 64, .inl G.2.1))] := hD
  refine lv_aload_n hx hb dL_earth_0 rfl (lv_at hl 3 rfl) ?_
  refine lv_iconst (v := 0) hx hb dL_earth_1 (by decide) ?_
  refine lv_aload_n hx hb dL_earth_2 rfl (lv_at hl 0 rfl) ?_
  refine lv_iload_n hx hb dL_earth_3 rfl (lv_at hl 1 rfl) ?_
  refine lv_iload_n hx hb dL_earth_4 rfl (lv_at hl 2 rfl) ?_
  refine px_callV (wr := [(o, .inl (cL, 1, .inr (.inl fo)))]) (own := RL) (nL := 5) (q0 := 1) (ci := 2) [1, 2, 3, 4, 5, 6, 7, 8, 9, 10, 11] [0] [.int x, .int y] (mX2_earth l D cI q h a0 a1 a2 a3 a4 a5 g b0 b1 fi la B G pr N hfl hN hN1 hN2 x y) ⟨hx, hb, hml, hown, hts⟩ (cwV 2 hts gL_earth_X2_earth rfl rfl rfl (by decide +kernel) ⟨by dsimp only [pq_R]; omega, by dsimp only [pq_R]; omega⟩) pq_blE (hE.1.call hD hS hA [1, 2, 3, 4, 5, 6, 7, 8, 9, 10, 11] rfl) (hK.sub [0] rfl) hP hD hS hA rfl (by decide) rfl (by decide) (by decide) rfl rfl rfl rfl hl.1 rfl (Nat.le_of_ble_eq_true rfl) dL_earth_5 ⟨by dsimp only [pq_R]; omega, by dsimp only [pq_R]; omega⟩ (fun Ex ce q9 w1 H locs hq hP hD hS hce hcv hcl => ?_) (fun v w1 H locs hq hP hD hS hz => ?_)
  · obtain ⟨rfl, hbad⟩ := hq
    have hP : va_P D vwCl [(o, .inl (cL, 1, .inr (.inl fo))), (q, .inr (2, [.ref h, .ref g, .int pr])), (h, .inr (0, [.ref a0, .ref a1, .ref a2, .ref a3, .ref a4, .ref a5, .int B.2.2.2.2.1, .int B.2.2.2.2.2.1, .int B.2.2.2.2.2.2])), (a0, .inl (cI, 128, .inl fi)), (a1, .inl (cI, 128, .inl la)), (a2, .inl (cI, 128, .inl B.1)), (a3, .inl (cI, 128, .inl B.2.1)), (a4, .inl (cI, 128, .inl B.2.2.1)), (a5, .inl (cI, 128, .inl B.2.2.2.1)), (g, .inr (1, [.ref b0, .ref b1, .int G.2.2.1, .int G.2.2.2])), (b0, .inl (cI, 64, .inl G.1)), (b1, .inl (cI, 64, .inl G.2.1))] H := hP
    have hD : va_D A [(o, .inl (cL, 1, .inr (.inl fo))), (q, .inr (2, [.ref h, .ref g, .int pr])), (h, .inr (0, [.ref a0, .ref a1, .ref a2, .ref a3, .ref a4, .ref a5, .int B.2.2.2.2.1, .int B.2.2.2.2.2.1, .int B.2.2.2.2.2.2])), (a0, .inl (cI, 128, .inl fi)), (a1, .inl (cI, 128, .inl la)), (a2, .inl (cI, 128, .inl B.1)), (a3, .inl (cI, 128, .inl B.2.1)), (a4, .inl (cI, 128, .inl B.2.2.1)), (a5, .inl (cI, 128, .inl B.2.2.2.1)), (g, .inr (1, [.ref b0, .ref b1, .int G.2.2.1, .int G.2.2.2])), (b0, .inl (cI, 64, .inl G.1)), (b1, .inl (cI, 64, .inl G.2.1))] := hD
    rcases hbad with ⟨hcd, rfl⟩ | ⟨hcd, rfl⟩
    · refine vx_catch (name := "java/lang/IndexOutOfBoundsException") hown [] ⟨0, 10, 13, 18⟩ [⟨0, 10, 17, 13⟩] (htab.trans rfl) (fun _ h => nomatch h) (by decide) (by decide) (hts (.classLink RL 18 "java/lang/IndexOutOfBoundsException") (by decide +kernel)) (va_Nw.use rfl (hE.1.1.2.1 _ (List.mem_of_getElem? (i := 4) rfl))) hce hcv hcl ?_
      refine W.widen (k := 3) (n := 18) (by omega) (by omega) ?_
      refine lv_astore (lv' := [(4, .ref q9), (0, .ref q), (1, .int x), (2, .int y), (3, .ref o)]) hx hb dL_earth_13 hl (by decide) rfl (fun ls hl => ?_)
      refine lv_iconst (v := 1) hx hb dL_earth_15 (by decide) ?_
      exact pq_iret hQ hx hb hr hlocks hK hS hP hD dL_earth_16 (by omega) (by omega) (Or.inr ⟨by rw [hcd]; decide, by rw [hcd], rfl⟩)
    · refine vx_catch (name := "java/lang/IllegalArgumentException") hown [⟨0, 10, 13, 18⟩] ⟨0, 10, 17, 13⟩ [] (htab.trans rfl) (List.forall_mem_cons.mpr ⟨Or.inr ⟨by decide, "java/lang/IndexOutOfBoundsException", hts (.classLink RL 18 "java/lang/IndexOutOfBoundsException") (by decide +kernel), hE.2.1⟩, fun _ h => nomatch h⟩) (by decide) (by decide) (hts (.classLink RL 13 "java/lang/IllegalArgumentException") (by decide +kernel)) (va_Nw.use rfl (hE.1.1.2.1 _ (List.mem_of_getElem? (i := 3) rfl))) hce hcv hcl ?_
      refine W.widen (k := 3) (n := 18) (by omega) (by omega) ?_
      refine lv_astore (lv' := [(4, .ref q9), (0, .ref q), (1, .int x), (2, .int y), (3, .ref o)]) hx hb dL_earth_17 hl (by decide) rfl (fun ls hl => ?_)
      refine lv_iconst (v := 2) hx hb dL_earth_19 (by decide) ?_
      exact pq_iret hQ hx hb hr hlocks hK hS hP hD dL_earth_20 (by omega) (by omega) (Or.inr ⟨by rw [hcd]; decide, by rw [hcd], rfl⟩)
  · obtain ⟨r, hv⟩ : ∃ r : Int32, v = some (.int r) := (by obtain ⟨kf, kt, -, -, -, -, h, -⟩ := hq; exact ⟨_, h⟩)
    subst hv
    have hP : va_P D vwCl ((o, .inl (cL, 1, .inr (.inl fo))) :: w1) H := hP
    have hD : va_D A ((o, .inl (cL, 1, .inr (.inl fo))) :: w1) := hD
    refine W.widen (k := 3) (n := 18) (by omega) (by omega) ?_
    refine W.eq (g2 := F0 m 8 ls [.int r, .int 0, .ref o]) rfl ?_
    refine lv_i2l hx hb dL_earth_8 rfl ?_
    refine pq_last hx hb hK hP hD hS 0 1 rfl rfl dL_earth_9 (fun H locs hP hD hS => ?_)
    have hP : va_P D vwCl ((o, .inl (cL, 1, .inr (.inl (vp_updL fo 0 r.toInt64)))) :: w1) H := hP
    have hD : va_D A ((o, .inl (cL, 1, .inr (.inl (vp_updL fo 0 r.toInt64)))) :: w1) := hD
    refine lv_goto (tgt := 21) hx hb dL_earth_10 (by decide) ?_
    refine lv_iconst (v := 0) hx hb dL_earth_21 (by decide) ?_
    exact pq_iret hQ hx hb hr hlocks hK hS hP hD dL_earth_22 (by omega) (by omega) (Or.inl ⟨r, w1, hq, rfl, rfl⟩)

set_option maxHeartbeats 4000000 in
set_option maxRecDepth 100000 in
theorem mL_earthByColumns (l : Launch) (D : va_G) (cI cL : ClassId) (o : Nat) (fo : Nat → Int64) (q h a0 a1 a2 a3 a4 a5 g b0 b1 : Nat) (fi la : Nat → Int32) (B : BK) (G : GK) (pr : Int32) (N : Nat) (hfl : l.stackTraces = false) (hN : G.2.2.1 = nI N) (hN1 : 1 ≤ N) (hN2 : N ≤ 64) (x y : Int32) : pq_M l yL_earthByColumns wsL_earthByColumns 9 165 3 18 D [(cI, .int), (cL, .long)] pq_L ((o, .inl (cL, 1, .inr (.inl fo))) :: ppW q h a0 a1 a2 a3 a4 a5 g b0 b1 cI fi la B G pr) [.ref q, .int x, .int y, .ref o] (fun v w1 => (∃ (r : Int32) (wc : va_W), (fun (v : Option Value) (w1 : va_W) => ∃ kf kt, x = nI kf ∧ y = nI kt ∧ kf ≤ kt ∧ kt < N ∧ v = some (.int (gAbove G.1 kf (kt + 1 - kf) 0)) ∧ w1 = ppW q h a0 a1 a2 a3 a4 a5 g b0 b1 cI fi la B G pr ∧ cSpan G.2.2.1 x y = 0) (some (.int r)) wc ∧ v = some (.int 0) ∧ w1 = (o, .inl (cL, 1, .inr (.inl (vp_updL fo 0 r.toInt64)))) :: wc) ∨ (cSpan G.2.2.1 x y ≠ 0 ∧ v = some (.int (cSpan G.2.2.1 x y)) ∧ w1 = ((o, .inl (cL, 1, .inr (.inl fo))) :: ppW q h a0 a1 a2 a3 a4 a5 g b0 b1 cI fi la B G pr))) := by
  refine pq_lenter (cc := cL_earthByColumns) (maxL := 5) (ret := (some .int)) (hh := [(0, 10, 13, 18), (0, 10, 17, 13)]) (by decide) rfl (Nat.le_of_ble_eq_true rfl) ?_
  intro p ev s m args below meth cd A ls Q H locs hx hb hr hml hts hown hlocks htab hK hP hD hS hA hE hl hQ
  have hl : lv_has ls 5 [(0, .ref q), (1, .int x), (2, .int y), (3, .ref o)] := hl
  have hP : va_P D vwCl [(o, .inl (cL, 1, .inr (.inl fo))), (q, .inr (2, [.ref h, .ref g, .int pr])), (h, .inr (0, [.ref a0, .ref a1, .ref a2, .ref a3, .ref a4, .ref a5, .int B.2.2.2.2.1, .int B.2.2.2.2.2.1, .int B.2.2.2.2.2.2])), (a0, .inl (cI, 128, .inl fi)), (a1, .inl (cI, 128, .inl la)), (a2, .inl (cI, 128, .inl B.1)), (a3, .inl (cI, 128, .inl B.2.1)), (a4, .inl (cI, 128, .inl B.2.2.1)), (a5, .inl (cI, 128, .inl B.2.2.2.1)), (g, .inr (1, [.ref b0, .ref b1, .int G.2.2.1, .int G.2.2.2])), (b0, .inl (cI, 64, .inl G.1)), (b1, .inl (cI, 64, .inl G.2.1))] H := hP
  have hD : va_D A [(o, .inl (cL, 1, .inr (.inl fo))), (q, .inr (2, [.ref h, .ref g, .int pr])), (h, .inr (0, [.ref a0, .ref a1, .ref a2, .ref a3, .ref a4, .ref a5, .int B.2.2.2.2.1, .int B.2.2.2.2.2.1, .int B.2.2.2.2.2.2])), (a0, .inl (cI, 128, .inl fi)), (a1, .inl (cI, 128, .inl la)), (a2, .inl (cI, 128, .inl B.1)), (a3, .inl (cI, 128, .inl B.2.1)), (a4, .inl (cI, 128, .inl B.2.2.1)), (a5, .inl (cI, 128, .inl B.2.2.2.1)), (g, .inr (1, [.ref b0, .ref b1, .int G.2.2.1, .int G.2.2.2])), (b0, .inl (cI, 64, .inl G.1)), (b1, .inl (cI, 64, .inl G.2.1))] := hD
  refine lv_aload_n hx hb dL_earthByColumns_0 rfl (lv_at hl 3 rfl) ?_
  refine lv_iconst (v := 0) hx hb dL_earthByColumns_1 (by decide) ?_
  refine lv_aload_n hx hb dL_earthByColumns_2 rfl (lv_at hl 0 rfl) ?_
  refine lv_iload_n hx hb dL_earthByColumns_3 rfl (lv_at hl 1 rfl) ?_
  refine lv_iload_n hx hb dL_earthByColumns_4 rfl (lv_at hl 2 rfl) ?_
  refine px_callV (wr := [(o, .inl (cL, 1, .inr (.inl fo)))]) (own := RL) (nL := 5) (q0 := 1) (ci := 2) [1, 2, 3, 4, 5, 6, 7, 8, 9, 10, 11] [0] [.int x, .int y] (mX2_earthByColumns l D cI q h a0 a1 a2 a3 a4 a5 g b0 b1 fi la B G pr N hfl hN hN1 hN2 x y) ⟨hx, hb, hml, hown, hts⟩ (cwV 2 hts gL_earthByColumns_X2_earthByColumns rfl rfl rfl (by decide +kernel) ⟨by dsimp only [pq_R]; omega, by dsimp only [pq_R]; omega⟩) pq_blE (hE.1.call hD hS hA [1, 2, 3, 4, 5, 6, 7, 8, 9, 10, 11] rfl) (hK.sub [0] rfl) hP hD hS hA rfl (by decide) rfl (by decide) (by decide) rfl rfl rfl rfl hl.1 rfl (Nat.le_of_ble_eq_true rfl) dL_earthByColumns_5 ⟨by dsimp only [pq_R]; omega, by dsimp only [pq_R]; omega⟩ (fun Ex ce q9 w1 H locs hq hP hD hS hce hcv hcl => ?_) (fun v w1 H locs hq hP hD hS hz => ?_)
  · obtain ⟨rfl, hbad⟩ := hq
    have hP : va_P D vwCl [(o, .inl (cL, 1, .inr (.inl fo))), (q, .inr (2, [.ref h, .ref g, .int pr])), (h, .inr (0, [.ref a0, .ref a1, .ref a2, .ref a3, .ref a4, .ref a5, .int B.2.2.2.2.1, .int B.2.2.2.2.2.1, .int B.2.2.2.2.2.2])), (a0, .inl (cI, 128, .inl fi)), (a1, .inl (cI, 128, .inl la)), (a2, .inl (cI, 128, .inl B.1)), (a3, .inl (cI, 128, .inl B.2.1)), (a4, .inl (cI, 128, .inl B.2.2.1)), (a5, .inl (cI, 128, .inl B.2.2.2.1)), (g, .inr (1, [.ref b0, .ref b1, .int G.2.2.1, .int G.2.2.2])), (b0, .inl (cI, 64, .inl G.1)), (b1, .inl (cI, 64, .inl G.2.1))] H := hP
    have hD : va_D A [(o, .inl (cL, 1, .inr (.inl fo))), (q, .inr (2, [.ref h, .ref g, .int pr])), (h, .inr (0, [.ref a0, .ref a1, .ref a2, .ref a3, .ref a4, .ref a5, .int B.2.2.2.2.1, .int B.2.2.2.2.2.1, .int B.2.2.2.2.2.2])), (a0, .inl (cI, 128, .inl fi)), (a1, .inl (cI, 128, .inl la)), (a2, .inl (cI, 128, .inl B.1)), (a3, .inl (cI, 128, .inl B.2.1)), (a4, .inl (cI, 128, .inl B.2.2.1)), (a5, .inl (cI, 128, .inl B.2.2.2.1)), (g, .inr (1, [.ref b0, .ref b1, .int G.2.2.1, .int G.2.2.2])), (b0, .inl (cI, 64, .inl G.1)), (b1, .inl (cI, 64, .inl G.2.1))] := hD
    rcases hbad with ⟨hcd, rfl⟩ | ⟨hcd, rfl⟩
    · refine vx_catch (name := "java/lang/IndexOutOfBoundsException") hown [] ⟨0, 10, 13, 18⟩ [⟨0, 10, 17, 13⟩] (htab.trans rfl) (fun _ h => nomatch h) (by decide) (by decide) (hts (.classLink RL 18 "java/lang/IndexOutOfBoundsException") (by decide +kernel)) (va_Nw.use rfl (hE.1.1.2.1 _ (List.mem_of_getElem? (i := 4) rfl))) hce hcv hcl ?_
      refine W.widen (k := 3) (n := 18) (by omega) (by omega) ?_
      refine lv_astore (lv' := [(4, .ref q9), (0, .ref q), (1, .int x), (2, .int y), (3, .ref o)]) hx hb dL_earthByColumns_13 hl (by decide) rfl (fun ls hl => ?_)
      refine lv_iconst (v := 1) hx hb dL_earthByColumns_15 (by decide) ?_
      exact pq_iret hQ hx hb hr hlocks hK hS hP hD dL_earthByColumns_16 (by omega) (by omega) (Or.inr ⟨by rw [hcd]; decide, by rw [hcd], rfl⟩)
    · refine vx_catch (name := "java/lang/IllegalArgumentException") hown [⟨0, 10, 13, 18⟩] ⟨0, 10, 17, 13⟩ [] (htab.trans rfl) (List.forall_mem_cons.mpr ⟨Or.inr ⟨by decide, "java/lang/IndexOutOfBoundsException", hts (.classLink RL 18 "java/lang/IndexOutOfBoundsException") (by decide +kernel), hE.2.1⟩, fun _ h => nomatch h⟩) (by decide) (by decide) (hts (.classLink RL 13 "java/lang/IllegalArgumentException") (by decide +kernel)) (va_Nw.use rfl (hE.1.1.2.1 _ (List.mem_of_getElem? (i := 3) rfl))) hce hcv hcl ?_
      refine W.widen (k := 3) (n := 18) (by omega) (by omega) ?_
      refine lv_astore (lv' := [(4, .ref q9), (0, .ref q), (1, .int x), (2, .int y), (3, .ref o)]) hx hb dL_earthByColumns_17 hl (by decide) rfl (fun ls hl => ?_)
      refine lv_iconst (v := 2) hx hb dL_earthByColumns_19 (by decide) ?_
      exact pq_iret hQ hx hb hr hlocks hK hS hP hD dL_earthByColumns_20 (by omega) (by omega) (Or.inr ⟨by rw [hcd]; decide, by rw [hcd], rfl⟩)
  · obtain ⟨r, hv⟩ : ∃ r : Int32, v = some (.int r) := (by obtain ⟨kf, kt, -, -, -, -, h, -⟩ := hq; exact ⟨_, h⟩)
    subst hv
    have hP : va_P D vwCl ((o, .inl (cL, 1, .inr (.inl fo))) :: w1) H := hP
    have hD : va_D A ((o, .inl (cL, 1, .inr (.inl fo))) :: w1) := hD
    refine W.widen (k := 3) (n := 18) (by omega) (by omega) ?_
    refine W.eq (g2 := F0 m 8 ls [.int r, .int 0, .ref o]) rfl ?_
    refine lv_i2l hx hb dL_earthByColumns_8 rfl ?_
    refine pq_last hx hb hK hP hD hS 0 1 rfl rfl dL_earthByColumns_9 (fun H locs hP hD hS => ?_)
    have hP : va_P D vwCl ((o, .inl (cL, 1, .inr (.inl (vp_updL fo 0 r.toInt64)))) :: w1) H := hP
    have hD : va_D A ((o, .inl (cL, 1, .inr (.inl (vp_updL fo 0 r.toInt64)))) :: w1) := hD
    refine lv_goto (tgt := 21) hx hb dL_earthByColumns_10 (by decide) ?_
    refine lv_iconst (v := 0) hx hb dL_earthByColumns_21 (by decide) ?_
    exact pq_iret hQ hx hb hr hlocks hK hS hP hD dL_earthByColumns_22 (by omega) (by omega) (Or.inl ⟨r, w1, hq, rfl, rfl⟩)

set_option maxHeartbeats 4000000 in
set_option maxRecDepth 100000 in
theorem mL_top (l : Launch) (D : va_G) (cI cL : ClassId) (o : Nat) (fo : Nat → Int64) (q h a0 a1 a2 a3 a4 a5 g b0 b1 : Nat) (fi la : Nat → Int32) (B : BK) (G : GK) (pr : Int32) (N : Nat) (hfl : l.stackTraces = false) (hN : G.2.2.1 = nI N) (hN1 : 1 ≤ N) (hN2 : N ≤ 64) (x y : Int32) : pq_M l yL_top wsL_top 14 315 3 18 D [(cI, .int), (cL, .long)] pq_L ((o, .inl (cL, 1, .inr (.inl fo))) :: ppW q h a0 a1 a2 a3 a4 a5 g b0 b1 cI fi la B G pr) [.ref q, .int x, .int y, .ref o] (fun v w1 => (∃ (r : Int32) (wc : va_W), (fun (v : Option Value) (w1 : va_W) => ∃ kf kt, x = nI kf ∧ y = nI kt ∧ kf ≤ kt ∧ kt < N ∧ v = some (.int (bTopFrom fi la (nI kf) (nI kt) 7 (bBegin B) 1).1) ∧ w1 = ppW q h a0 a1 a2 a3 a4 a5 g b0 b1 cI fi la (bTopFrom fi la (nI kf) (nI kt) 7 (bBegin B) 1).2 G pr ∧ cSpan G.2.2.1 x y = 0) (some (.int r)) wc ∧ v = some (.int 0) ∧ w1 = (o, .inl (cL, 1, .inr (.inl (vp_updL fo 0 r.toInt64)))) :: wc) ∨ (cSpan G.2.2.1 x y ≠ 0 ∧ v = some (.int (cSpan G.2.2.1 x y)) ∧ w1 = ((o, .inl (cL, 1, .inr (.inl fo))) :: ppW q h a0 a1 a2 a3 a4 a5 g b0 b1 cI fi la B G pr))) := by
  refine pq_lenter (cc := cL_top) (maxL := 5) (ret := (some .int)) (hh := [(0, 10, 13, 18), (0, 10, 17, 13)]) (by decide) rfl (Nat.le_of_ble_eq_true rfl) ?_
  intro p ev s m args below meth cd A ls Q H locs hx hb hr hml hts hown hlocks htab hK hP hD hS hA hE hl hQ
  have hl : lv_has ls 5 [(0, .ref q), (1, .int x), (2, .int y), (3, .ref o)] := hl
  have hP : va_P D vwCl [(o, .inl (cL, 1, .inr (.inl fo))), (q, .inr (2, [.ref h, .ref g, .int pr])), (h, .inr (0, [.ref a0, .ref a1, .ref a2, .ref a3, .ref a4, .ref a5, .int B.2.2.2.2.1, .int B.2.2.2.2.2.1, .int B.2.2.2.2.2.2])), (a0, .inl (cI, 128, .inl fi)), (a1, .inl (cI, 128, .inl la)), (a2, .inl (cI, 128, .inl B.1)), (a3, .inl (cI, 128, .inl B.2.1)), (a4, .inl (cI, 128, .inl B.2.2.1)), (a5, .inl (cI, 128, .inl B.2.2.2.1)), (g, .inr (1, [.ref b0, .ref b1, .int G.2.2.1, .int G.2.2.2])), (b0, .inl (cI, 64, .inl G.1)), (b1, .inl (cI, 64, .inl G.2.1))] H := hP
  have hD : va_D A [(o, .inl (cL, 1, .inr (.inl fo))), (q, .inr (2, [.ref h, .ref g, .int pr])), (h, .inr (0, [.ref a0, .ref a1, .ref a2, .ref a3, .ref a4, .ref a5, .int B.2.2.2.2.1, .int B.2.2.2.2.2.1, .int B.2.2.2.2.2.2])), (a0, .inl (cI, 128, .inl fi)), (a1, .inl (cI, 128, .inl la)), (a2, .inl (cI, 128, .inl B.1)), (a3, .inl (cI, 128, .inl B.2.1)), (a4, .inl (cI, 128, .inl B.2.2.1)), (a5, .inl (cI, 128, .inl B.2.2.2.1)), (g, .inr (1, [.ref b0, .ref b1, .int G.2.2.1, .int G.2.2.2])), (b0, .inl (cI, 64, .inl G.1)), (b1, .inl (cI, 64, .inl G.2.1))] := hD
  refine lv_aload_n hx hb dL_top_0 rfl (lv_at hl 3 rfl) ?_
  refine lv_iconst (v := 0) hx hb dL_top_1 (by decide) ?_
  refine lv_aload_n hx hb dL_top_2 rfl (lv_at hl 0 rfl) ?_
  refine lv_iload_n hx hb dL_top_3 rfl (lv_at hl 1 rfl) ?_
  refine lv_iload_n hx hb dL_top_4 rfl (lv_at hl 2 rfl) ?_
  refine px_callV (wr := [(o, .inl (cL, 1, .inr (.inl fo)))]) (own := RL) (nL := 5) (q0 := 1) (ci := 2) [1, 2, 3, 4, 5, 6, 7, 8, 9, 10, 11] [0] [.int x, .int y] (mX2_top l D cI q h a0 a1 a2 a3 a4 a5 g b0 b1 fi la B G pr N hfl hN hN1 hN2 x y) ⟨hx, hb, hml, hown, hts⟩ (cwV 2 hts gL_top_X2_top rfl rfl rfl (by decide +kernel) ⟨by dsimp only [pq_R]; omega, by dsimp only [pq_R]; omega⟩) pq_blE (hE.1.call hD hS hA [1, 2, 3, 4, 5, 6, 7, 8, 9, 10, 11] rfl) (hK.sub [0] rfl) hP hD hS hA rfl (by decide) rfl (by decide) (by decide) rfl rfl rfl rfl hl.1 rfl (Nat.le_of_ble_eq_true rfl) dL_top_5 ⟨by dsimp only [pq_R]; omega, by dsimp only [pq_R]; omega⟩ (fun Ex ce q9 w1 H locs hq hP hD hS hce hcv hcl => ?_) (fun v w1 H locs hq hP hD hS hz => ?_)
  · obtain ⟨rfl, hbad⟩ := hq
    have hP : va_P D vwCl [(o, .inl (cL, 1, .inr (.inl fo))), (q, .inr (2, [.ref h, .ref g, .int pr])), (h, .inr (0, [.ref a0, .ref a1, .ref a2, .ref a3, .ref a4, .ref a5, .int B.2.2.2.2.1, .int B.2.2.2.2.2.1, .int B.2.2.2.2.2.2])), (a0, .inl (cI, 128, .inl fi)), (a1, .inl (cI, 128, .inl la)), (a2, .inl (cI, 128, .inl B.1)), (a3, .inl (cI, 128, .inl B.2.1)), (a4, .inl (cI, 128, .inl B.2.2.1)), (a5, .inl (cI, 128, .inl B.2.2.2.1)), (g, .inr (1, [.ref b0, .ref b1, .int G.2.2.1, .int G.2.2.2])), (b0, .inl (cI, 64, .inl G.1)), (b1, .inl (cI, 64, .inl G.2.1))] H := hP
    have hD : va_D A [(o, .inl (cL, 1, .inr (.inl fo))), (q, .inr (2, [.ref h, .ref g, .int pr])), (h, .inr (0, [.ref a0, .ref a1, .ref a2, .ref a3, .ref a4, .ref a5, .int B.2.2.2.2.1, .int B.2.2.2.2.2.1, .int B.2.2.2.2.2.2])), (a0, .inl (cI, 128, .inl fi)), (a1, .inl (cI, 128, .inl la)), (a2, .inl (cI, 128, .inl B.1)), (a3, .inl (cI, 128, .inl B.2.1)), (a4, .inl (cI, 128, .inl B.2.2.1)), (a5, .inl (cI, 128, .inl B.2.2.2.1)), (g, .inr (1, [.ref b0, .ref b1, .int G.2.2.1, .int G.2.2.2])), (b0, .inl (cI, 64, .inl G.1)), (b1, .inl (cI, 64, .inl G.2.1))] := hD
    rcases hbad with ⟨hcd, rfl⟩ | ⟨hcd, rfl⟩
    · refine vx_catch (name := "java/lang/IndexOutOfBoundsException") hown [] ⟨0, 10, 13, 18⟩ [⟨0, 10, 17, 13⟩] (htab.trans rfl) (fun _ h => nomatch h) (by decide) (by decide) (hts (.classLink RL 18 "java/lang/IndexOutOfBoundsException") (by decide +kernel)) (va_Nw.use rfl (hE.1.1.2.1 _ (List.mem_of_getElem? (i := 4) rfl))) hce hcv hcl ?_
      refine W.widen (k := 3) (n := 18) (by omega) (by omega) ?_
      refine lv_astore (lv' := [(4, .ref q9), (0, .ref q), (1, .int x), (2, .int y), (3, .ref o)]) hx hb dL_top_13 hl (by decide) rfl (fun ls hl => ?_)
      refine lv_iconst (v := 1) hx hb dL_top_15 (by decide) ?_
      exact pq_iret hQ hx hb hr hlocks hK hS hP hD dL_top_16 (by omega) (by omega) (Or.inr ⟨by rw [hcd]; decide, by rw [hcd], rfl⟩)
    · refine vx_catch (name := "java/lang/IllegalArgumentException") hown [⟨0, 10, 13, 18⟩] ⟨0, 10, 17, 13⟩ [] (htab.trans rfl) (List.forall_mem_cons.mpr ⟨Or.inr ⟨by decide, "java/lang/IndexOutOfBoundsException", hts (.classLink RL 18 "java/lang/IndexOutOfBoundsException") (by decide +kernel), hE.2.1⟩, fun _ h => nomatch h⟩) (by decide) (by decide) (hts (.classLink RL 13 "java/lang/IllegalArgumentException") (by decide +kernel)) (va_Nw.use rfl (hE.1.1.2.1 _ (List.mem_of_getElem? (i := 3) rfl))) hce hcv hcl ?_
      refine W.widen (k := 3) (n := 18) (by omega) (by omega) ?_
      refine lv_astore (lv' := [(4, .ref q9), (0, .ref q), (1, .int x), (2, .int y), (3, .ref o)]) hx hb dL_top_17 hl (by decide) rfl (fun ls hl => ?_)
      refine lv_iconst (v := 2) hx hb dL_top_19 (by decide) ?_
      exact pq_iret hQ hx hb hr hlocks hK hS hP hD dL_top_20 (by omega) (by omega) (Or.inr ⟨by rw [hcd]; decide, by rw [hcd], rfl⟩)
  · obtain ⟨r, hv⟩ : ∃ r : Int32, v = some (.int r) := (by obtain ⟨kf, kt, -, -, -, -, h, -⟩ := hq; exact ⟨_, h⟩)
    subst hv
    have hP : va_P D vwCl ((o, .inl (cL, 1, .inr (.inl fo))) :: w1) H := hP
    have hD : va_D A ((o, .inl (cL, 1, .inr (.inl fo))) :: w1) := hD
    refine W.widen (k := 3) (n := 18) (by omega) (by omega) ?_
    refine W.eq (g2 := F0 m 8 ls [.int r, .int 0, .ref o]) rfl ?_
    refine lv_i2l hx hb dL_top_8 rfl ?_
    refine pq_last hx hb hK hP hD hS 0 1 rfl rfl dL_top_9 (fun H locs hP hD hS => ?_)
    have hP : va_P D vwCl ((o, .inl (cL, 1, .inr (.inl (vp_updL fo 0 r.toInt64)))) :: w1) H := hP
    have hD : va_D A ((o, .inl (cL, 1, .inr (.inl (vp_updL fo 0 r.toInt64)))) :: w1) := hD
    refine lv_goto (tgt := 21) hx hb dL_top_10 (by decide) ?_
    refine lv_iconst (v := 0) hx hb dL_top_21 (by decide) ?_
    exact pq_iret hQ hx hb hr hlocks hK hS hP hD dL_top_22 (by omega) (by omega) (Or.inl ⟨r, w1, hq, rfl, rfl⟩)

set_option maxHeartbeats 4000000 in
set_option maxRecDepth 100000 in
theorem mL_height (l : Launch) (D : va_G) (cI cL : ClassId) (o : Nat) (fo : Nat → Int64) (q h a0 a1 a2 a3 a4 a5 g b0 b1 : Nat) (fi la : Nat → Int32) (B : BK) (G : GK) (pr : Int32) (N : Nat) (hfl : l.stackTraces = false) (hN : G.2.2.1 = nI N) (hN1 : 1 ≤ N) (hN2 : N ≤ 64) (x : Int32) : pq_M l yL_height wsL_height 8 142 1 6 D [(cI, .int), (cL, .long)] pq_L ((o, .inl (cL, 1, .inr (.inl fo))) :: ppW q h a0 a1 a2 a3 a4 a5 g b0 b1 cI fi la B G pr) [.ref q, .int x, .ref o] (fun v w1 => (∃ (r : Int32) (wc : va_W), (fun (v : Option Value) (w1 : va_W) => v = some (.int (bLeast fi la B.1 x 126)) ∧ w1 = ppW q h a0 a1 a2 a3 a4 a5 g b0 b1 cI fi la B G pr ∧ cCol G.2.2.1 x = 0) (some (.int r)) wc ∧ v = some (.int 0) ∧ w1 = (o, .inl (cL, 1, .inr (.inl (vp_updL fo 0 r.toInt64)))) :: wc) ∨ (cCol G.2.2.1 x ≠ 0 ∧ v = some (.int (cCol G.2.2.1 x)) ∧ w1 = ((o, .inl (cL, 1, .inr (.inl fo))) :: ppW q h a0 a1 a2 a3 a4 a5 g b0 b1 cI fi la B G pr))) := by
  refine pq_lenter (cc := cL_height) (maxL := 4) (ret := (some .int)) (hh := [(0, 9, 12, 18)]) (by decide) rfl (Nat.le_of_ble_eq_true rfl) ?_
  intro p ev s m args below meth cd A ls Q H locs hx hb hr hml hts hown hlocks htab hK hP hD hS hA hE hl hQ
  have hl : lv_has ls 4 [(0, .ref q), (1, .int x), (2, .ref o)] := hl
  have hP : va_P D vwCl [(o, .inl (cL, 1, .inr (.inl fo))), (q, .inr (2, [.ref h, .ref g, .int pr])), (h, .inr (0, [.ref a0, .ref a1, .ref a2, .ref a3, .ref a4, .ref a5, .int B.2.2.2.2.1, .int B.2.2.2.2.2.1, .int B.2.2.2.2.2.2])), (a0, .inl (cI, 128, .inl fi)), (a1, .inl (cI, 128, .inl la)), (a2, .inl (cI, 128, .inl B.1)), (a3, .inl (cI, 128, .inl B.2.1)), (a4, .inl (cI, 128, .inl B.2.2.1)), (a5, .inl (cI, 128, .inl B.2.2.2.1)), (g, .inr (1, [.ref b0, .ref b1, .int G.2.2.1, .int G.2.2.2])), (b0, .inl (cI, 64, .inl G.1)), (b1, .inl (cI, 64, .inl G.2.1))] H := hP
  have hD : va_D A [(o, .inl (cL, 1, .inr (.inl fo))), (q, .inr (2, [.ref h, .ref g, .int pr])), (h, .inr (0, [.ref a0, .ref a1, .ref a2, .ref a3, .ref a4, .ref a5, .int B.2.2.2.2.1, .int B.2.2.2.2.2.1, .int B.2.2.2.2.2.2])), (a0, .inl (cI, 128, .inl fi)), (a1, .inl (cI, 128, .inl la)), (a2, .inl (cI, 128, .inl B.1)), (a3, .inl (cI, 128, .inl B.2.1)), (a4, .inl (cI, 128, .inl B.2.2.1)), (a5, .inl (cI, 128, .inl B.2.2.2.1)), (g, .inr (1, [.ref b0, .ref b1, .int G.2.2.1, .int G.2.2.2])), (b0, .inl (cI, 64, .inl G.1)), (b1, .inl (cI, 64, .inl G.2.1))] := hD
  refine lv_aload_n hx hb dL_height_0 rfl (lv_at hl 2 rfl) ?_
  refine lv_iconst (v := 0) hx hb dL_height_1 (by decide) ?_
  refine lv_aload_n hx hb dL_height_2 rfl (lv_at hl 0 rfl) ?_
  refine lv_iload_n hx hb dL_height_3 rfl (lv_at hl 1 rfl) ?_
  refine px_callV (wr := [(o, .inl (cL, 1, .inr (.inl fo)))]) (own := RL) (nL := 4) (q0 := 1) (ci := 2) [1, 2, 3, 4, 5, 6, 7, 8, 9, 10, 11] [0] [.int x] (mX2_height l D cI q h a0 a1 a2 a3 a4 a5 g b0 b1 fi la B G pr N hfl hN hN1 hN2 x) ⟨hx, hb, hml, hown, hts⟩ (cwV 1 hts gL_height_X2_height rfl rfl rfl (by decide +kernel) ⟨by dsimp only [pq_R]; omega, by dsimp only [pq_R]; omega⟩) pq_blE (hE.1.call hD hS hA [1, 2, 3, 4, 5, 6, 7, 8, 9, 10, 11] rfl) (hK.sub [0] rfl) hP hD hS hA rfl (by decide) rfl (by decide) (by decide) rfl rfl rfl rfl hl.1 rfl (Nat.le_of_ble_eq_true rfl) dL_height_4 ⟨by dsimp only [pq_R]; omega, by dsimp only [pq_R]; omega⟩ (fun Ex ce q9 w1 H locs hq hP hD hS hce hcv hcl => ?_) (fun v w1 H locs hq hP hD hS hz => ?_)
  · obtain ⟨rfl, hbad⟩ := hq
    have hP : va_P D vwCl [(o, .inl (cL, 1, .inr (.inl fo))), (q, .inr (2, [.ref h, .ref g, .int pr])), (h, .inr (0, [.ref a0, .ref a1, .ref a2, .ref a3, .ref a4, .ref a5, .int B.2.2.2.2.1, .int B.2.2.2.2.2.1, .int B.2.2.2.2.2.2])), (a0, .inl (cI, 128, .inl fi)), (a1, .inl (cI, 128, .inl la)), (a2, .inl (cI, 128, .inl B.1)), (a3, .inl (cI, 128, .inl B.2.1)), (a4, .inl (cI, 128, .inl B.2.2.1)), (a5, .inl (cI, 128, .inl B.2.2.2.1)), (g, .inr (1, [.ref b0, .ref b1, .int G.2.2.1, .int G.2.2.2])), (b0, .inl (cI, 64, .inl G.1)), (b1, .inl (cI, 64, .inl G.2.1))] H := hP
    have hD : va_D A [(o, .inl (cL, 1, .inr (.inl fo))), (q, .inr (2, [.ref h, .ref g, .int pr])), (h, .inr (0, [.ref a0, .ref a1, .ref a2, .ref a3, .ref a4, .ref a5, .int B.2.2.2.2.1, .int B.2.2.2.2.2.1, .int B.2.2.2.2.2.2])), (a0, .inl (cI, 128, .inl fi)), (a1, .inl (cI, 128, .inl la)), (a2, .inl (cI, 128, .inl B.1)), (a3, .inl (cI, 128, .inl B.2.1)), (a4, .inl (cI, 128, .inl B.2.2.1)), (a5, .inl (cI, 128, .inl B.2.2.2.1)), (g, .inr (1, [.ref b0, .ref b1, .int G.2.2.1, .int G.2.2.2])), (b0, .inl (cI, 64, .inl G.1)), (b1, .inl (cI, 64, .inl G.2.1))] := hD
    obtain ⟨hcd, rfl⟩ := hbad
    refine vx_catch (name := "java/lang/IndexOutOfBoundsException") hown [] ⟨0, 9, 12, 18⟩ [] (htab.trans rfl) (fun _ h => nomatch h) (by decide) (by decide) (hts (.classLink RL 18 "java/lang/IndexOutOfBoundsException") (by decide +kernel)) (va_Nw.use rfl (hE.1.1.2.1 _ (List.mem_of_getElem? (i := 4) rfl))) hce hcv hcl ?_
    refine W.widen (k := 1) (n := 6) (by omega) (by omega) ?_
    refine lv_astore_n (lv' := [(3, .ref q9), (0, .ref q), (1, .int x), (2, .ref o)]) hx hb dL_height_12 rfl hl (by decide) rfl (fun ls hl => ?_)
    refine lv_iconst (v := 1) hx hb dL_height_13 (by decide) ?_
    exact pq_iret hQ hx hb hr hlocks hK hS hP hD dL_height_14 (by omega) (by omega) (Or.inr ⟨by rw [hcd]; decide, by rw [hcd], rfl⟩)
  · obtain ⟨r, hv⟩ : ∃ r : Int32, v = some (.int r) := ⟨_, hq.1⟩
    subst hv
    have hP : va_P D vwCl ((o, .inl (cL, 1, .inr (.inl fo))) :: w1) H := hP
    have hD : va_D A ((o, .inl (cL, 1, .inr (.inl fo))) :: w1) := hD
    refine W.widen (k := 1) (n := 6) (by omega) (by omega) ?_
    refine W.eq (g2 := F0 m 7 ls [.int r, .int 0, .ref o]) rfl ?_
    refine lv_i2l hx hb dL_height_7 rfl ?_
    refine pq_last hx hb hK hP hD hS 0 1 rfl rfl dL_height_8 (fun H locs hP hD hS => ?_)
    have hP : va_P D vwCl ((o, .inl (cL, 1, .inr (.inl (vp_updL fo 0 r.toInt64)))) :: w1) H := hP
    have hD : va_D A ((o, .inl (cL, 1, .inr (.inl (vp_updL fo 0 r.toInt64)))) :: w1) := hD
    refine lv_goto (tgt := 15) hx hb dL_height_9 (by decide) ?_
    refine lv_iconst (v := 0) hx hb dL_height_15 (by decide) ?_
    exact pq_iret hQ hx hb hr hlocks hK hS hP hD dL_height_16 (by omega) (by omega) (Or.inl ⟨r, w1, hq, rfl, rfl⟩)

set_option maxHeartbeats 4000000 in
set_option maxRecDepth 100000 in
theorem mL_heightOfColumn (l : Launch) (D : va_G) (cI cL : ClassId) (o : Nat) (fo : Nat → Int64) (q h a0 a1 a2 a3 a4 a5 g b0 b1 : Nat) (fi la : Nat → Int32) (B : BK) (G : GK) (pr : Int32) (N : Nat) (hfl : l.stackTraces = false) (hN : G.2.2.1 = nI N) (hN1 : 1 ≤ N) (hN2 : N ≤ 64) (x : Int32) : pq_M l yL_heightOfColumn wsL_heightOfColumn 8 142 1 6 D [(cI, .int), (cL, .long)] pq_L ((o, .inl (cL, 1, .inr (.inl fo))) :: ppW q h a0 a1 a2 a3 a4 a5 g b0 b1 cI fi la B G pr) [.ref q, .int x, .ref o] (fun v w1 => (∃ (r : Int32) (wc : va_W), (fun (v : Option Value) (w1 : va_W) => ∃ k, x = nI k ∧ k < N ∧ v = some (.int (G.1 k)) ∧ w1 = ppW q h a0 a1 a2 a3 a4 a5 g b0 b1 cI fi la B G pr ∧ cCol G.2.2.1 x = 0) (some (.int r)) wc ∧ v = some (.int 0) ∧ w1 = (o, .inl (cL, 1, .inr (.inl (vp_updL fo 0 r.toInt64)))) :: wc) ∨ (cCol G.2.2.1 x ≠ 0 ∧ v = some (.int (cCol G.2.2.1 x)) ∧ w1 = ((o, .inl (cL, 1, .inr (.inl fo))) :: ppW q h a0 a1 a2 a3 a4 a5 g b0 b1 cI fi la B G pr))) := by
  refine pq_lenter (cc := cL_heightOfColumn) (maxL := 4) (ret := (some .int)) (hh := [(0, 9, 12, 18)]) (by decide) rfl (Nat.le_of_ble_eq_true rfl) ?_
  intro p ev s m args below meth cd A ls Q H locs hx hb hr hml hts hown hlocks htab hK hP hD hS hA hE hl hQ
  have hl : lv_has ls 4 [(0, .ref q), (1, .int x), (2, .ref o)] := hl
  have hP : va_P D vwCl [(o, .inl (cL, 1, .inr (.inl fo))), (q, .inr (2, [.ref h, .ref g, .int pr])), (h, .inr (0, [.ref a0, .ref a1, .ref a2, .ref a3, .ref a4, .ref a5, .int B.2.2.2.2.1, .int B.2.2.2.2.2.1, .int B.2.2.2.2.2.2])), (a0, .inl (cI, 128, .inl fi)), (a1, .inl (cI, 128, .inl la)), (a2, .inl (cI, 128, .inl B.1)), (a3, .inl (cI, 128, .inl B.2.1)), (a4, .inl (cI, 128, .inl B.2.2.1)), (a5, .inl (cI, 128, .inl B.2.2.2.1)), (g, .inr (1, [.ref b0, .ref b1, .int G.2.2.1, .int G.2.2.2])), (b0, .inl (cI, 64, .inl G.1)), (b1, .inl (cI, 64, .inl G.2.1))] H := hP
  have hD : va_D A [(o, .inl (cL, 1, .inr (.inl fo))), (q, .inr (2, [.ref h, .ref g, .int pr])), (h, .inr (0, [.ref a0, .ref a1, .ref a2, .ref a3, .ref a4, .ref a5, .int B.2.2.2.2.1, .int B.2.2.2.2.2.1, .int B.2.2.2.2.2.2])), (a0, .inl (cI, 128, .inl fi)), (a1, .inl (cI, 128, .inl la)), (a2, .inl (cI, 128, .inl B.1)), (a3, .inl (cI, 128, .inl B.2.1)), (a4, .inl (cI, 128, .inl B.2.2.1)), (a5, .inl (cI, 128, .inl B.2.2.2.1)), (g, .inr (1, [.ref b0, .ref b1, .int G.2.2.1, .int G.2.2.2])), (b0, .inl (cI, 64, .inl G.1)), (b1, .inl (cI, 64, .inl G.2.1))] := hD
  refine lv_aload_n hx hb dL_heightOfColumn_0 rfl (lv_at hl 2 rfl) ?_
  refine lv_iconst (v := 0) hx hb dL_heightOfColumn_1 (by decide) ?_
  refine lv_aload_n hx hb dL_heightOfColumn_2 rfl (lv_at hl 0 rfl) ?_
  refine lv_iload_n hx hb dL_heightOfColumn_3 rfl (lv_at hl 1 rfl) ?_
  refine px_callV (wr := [(o, .inl (cL, 1, .inr (.inl fo)))]) (own := RL) (nL := 4) (q0 := 1) (ci := 2) [1, 2, 3, 4, 5, 6, 7, 8, 9, 10, 11] [0] [.int x] (mX2_heightOfColumn l D cI q h a0 a1 a2 a3 a4 a5 g b0 b1 fi la B G pr N hfl hN hN1 hN2 x) ⟨hx, hb, hml, hown, hts⟩ (cwV 1 hts gL_heightOfColumn_X2_heightOfColumn rfl rfl rfl (by decide +kernel) ⟨by dsimp only [pq_R]; omega, by dsimp only [pq_R]; omega⟩) pq_blE (hE.1.call hD hS hA [1, 2, 3, 4, 5, 6, 7, 8, 9, 10, 11] rfl) (hK.sub [0] rfl) hP hD hS hA rfl (by decide) rfl (by decide) (by decide) rfl rfl rfl rfl hl.1 rfl (Nat.le_of_ble_eq_true rfl) dL_heightOfColumn_4 ⟨by dsimp only [pq_R]; omega, by dsimp only [pq_R]; omega⟩ (fun Ex ce q9 w1 H locs hq hP hD hS hce hcv hcl => ?_) (fun v w1 H locs hq hP hD hS hz => ?_)
  · obtain ⟨rfl, hbad⟩ := hq
    have hP : va_P D vwCl [(o, .inl (cL, 1, .inr (.inl fo))), (q, .inr (2, [.ref h, .ref g, .int pr])), (h, .inr (0, [.ref a0, .ref a1, .ref a2, .ref a3, .ref a4, .ref a5, .int B.2.2.2.2.1, .int B.2.2.2.2.2.1, .int B.2.2.2.2.2.2])), (a0, .inl (cI, 128, .inl fi)), (a1, .inl (cI, 128, .inl la)), (a2, .inl (cI, 128, .inl B.1)), (a3, .inl (cI, 128, .inl B.2.1)), (a4, .inl (cI, 128, .inl B.2.2.1)), (a5, .inl (cI, 128, .inl B.2.2.2.1)), (g, .inr (1, [.ref b0, .ref b1, .int G.2.2.1, .int G.2.2.2])), (b0, .inl (cI, 64, .inl G.1)), (b1, .inl (cI, 64, .inl G.2.1))] H := hP
    have hD : va_D A [(o, .inl (cL, 1, .inr (.inl fo))), (q, .inr (2, [.ref h, .ref g, .int pr])), (h, .inr (0, [.ref a0, .ref a1, .ref a2, .ref a3, .ref a4, .ref a5, .int B.2.2.2.2.1, .int B.2.2.2.2.2.1, .int B.2.2.2.2.2.2])), (a0, .inl (cI, 128, .inl fi)), (a1, .inl (cI, 128, .inl la)), (a2, .inl (cI, 128, .inl B.1)), (a3, .inl (cI, 128, .inl B.2.1)), (a4, .inl (cI, 128, .inl B.2.2.1)), (a5, .inl (cI, 128, .inl B.2.2.2.1)), (g, .inr (1, [.ref b0, .ref b1, .int G.2.2.1, .int G.2.2.2])), (b0, .inl (cI, 64, .inl G.1)), (b1, .inl (cI, 64, .inl G.2.1))] := hD
    obtain ⟨hcd, rfl⟩ := hbad
    refine vx_catch (name := "java/lang/IndexOutOfBoundsException") hown [] ⟨0, 9, 12, 18⟩ [] (htab.trans rfl) (fun _ h => nomatch h) (by decide) (by decide) (hts (.classLink RL 18 "java/lang/IndexOutOfBoundsException") (by decide +kernel)) (va_Nw.use rfl (hE.1.1.2.1 _ (List.mem_of_getElem? (i := 4) rfl))) hce hcv hcl ?_
    refine W.widen (k := 1) (n := 6) (by omega) (by omega) ?_
    refine lv_astore_n (lv' := [(3, .ref q9), (0, .ref q), (1, .int x), (2, .ref o)]) hx hb dL_heightOfColumn_12 rfl hl (by decide) rfl (fun ls hl => ?_)
    refine lv_iconst (v := 1) hx hb dL_heightOfColumn_13 (by decide) ?_
    exact pq_iret hQ hx hb hr hlocks hK hS hP hD dL_heightOfColumn_14 (by omega) (by omega) (Or.inr ⟨by rw [hcd]; decide, by rw [hcd], rfl⟩)
  · obtain ⟨r, hv⟩ : ∃ r : Int32, v = some (.int r) := (by obtain ⟨k, -, -, h, -⟩ := hq; exact ⟨_, h⟩)
    subst hv
    have hP : va_P D vwCl ((o, .inl (cL, 1, .inr (.inl fo))) :: w1) H := hP
    have hD : va_D A ((o, .inl (cL, 1, .inr (.inl fo))) :: w1) := hD
    refine W.widen (k := 1) (n := 6) (by omega) (by omega) ?_
    refine W.eq (g2 := F0 m 7 ls [.int r, .int 0, .ref o]) rfl ?_
    refine lv_i2l hx hb dL_heightOfColumn_7 rfl ?_
    refine pq_last hx hb hK hP hD hS 0 1 rfl rfl dL_heightOfColumn_8 (fun H locs hP hD hS => ?_)
    have hP : va_P D vwCl ((o, .inl (cL, 1, .inr (.inl (vp_updL fo 0 r.toInt64)))) :: w1) H := hP
    have hD : va_D A ((o, .inl (cL, 1, .inr (.inl (vp_updL fo 0 r.toInt64)))) :: w1) := hD
    refine lv_goto (tgt := 15) hx hb dL_heightOfColumn_9 (by decide) ?_
    refine lv_iconst (v := 0) hx hb dL_heightOfColumn_15 (by decide) ?_
    exact pq_iret hQ hx hb hr hlocks hK hS hP hD dL_heightOfColumn_16 (by omega) (by omega) (Or.inl ⟨r, w1, hq, rfl, rfl⟩)

set_option maxHeartbeats 4000000 in
set_option maxRecDepth 100000 in
theorem mL_wouldPress (l : Launch) (D : va_G) (cI cL : ClassId) (o : Nat) (fo : Nat → Int64) (q h a0 a1 a2 a3 a4 a5 g b0 b1 : Nat) (fi la : Nat → Int32) (B : BK) (G : GK) (pr : Int32) (N : Nat) (hfl : l.stackTraces = false) (hN : G.2.2.1 = nI N) (hN1 : 1 ≤ N) (hN2 : N ≤ 64) (x y c0 : Int32) : pq_M l yL_wouldPress wsL_wouldPress 9 166 4 24 D [(cI, .int), (cL, .long)] pq_L ((o, .inl (cL, 1, .inr (.inl fo))) :: ppW q h a0 a1 a2 a3 a4 a5 g b0 b1 cI fi la B G pr) [.ref q, .int x, .int y, .int c0, .ref o] (fun v w1 => (∃ (r : Int32) (wc : va_W), (fun (v : Option Value) (w1 : va_W) => ∃ kf kt, x = nI kf ∧ y = nI kt ∧ kf ≤ kt ∧ kt < N ∧ v = some (.int (gAbove G.1 kf (kt + 1 - kf) c0)) ∧ w1 = ppW q h a0 a1 a2 a3 a4 a5 g b0 b1 cI fi la B G pr ∧ cLow G.2.2.1 x y c0 0 1000 = 0) (some (.int r)) wc ∧ v = some (.int 0) ∧ w1 = (o, .inl (cL, 1, .inr (.inl (vp_updL fo 0 r.toInt64)))) :: wc) ∨ (cLow G.2.2.1 x y c0 0 1000 ≠ 0 ∧ v = some (.int (cLow G.2.2.1 x y c0 0 1000)) ∧ w1 = ((o, .inl (cL, 1, .inr (.inl fo))) :: ppW q h a0 a1 a2 a3 a4 a5 g b0 b1 cI fi la B G pr))) := by
  refine pq_lenter (cc := cL_wouldPress) (maxL := 6) (ret := (some .int)) (hh := [(0, 12, 15, 18), (0, 12, 19, 13)]) (by decide) rfl (Nat.le_of_ble_eq_true rfl) ?_
  intro p ev s m args below meth cd A ls Q H locs hx hb hr hml hts hown hlocks htab hK hP hD hS hA hE hl hQ
  have hl : lv_has ls 6 [(0, .ref q), (1, .int x), (2, .int y), (3, .int c0), (4, .ref o)] := hl
  have hP : va_P D vwCl [(o, .inl (cL, 1, .inr (.inl fo))), (q, .inr (2, [.ref h, .ref g, .int pr])), (h, .inr (0, [.ref a0, .ref a1, .ref a2, .ref a3, .ref a4, .ref a5, .int B.2.2.2.2.1, .int B.2.2.2.2.2.1, .int B.2.2.2.2.2.2])), (a0, .inl (cI, 128, .inl fi)), (a1, .inl (cI, 128, .inl la)), (a2, .inl (cI, 128, .inl B.1)), (a3, .inl (cI, 128, .inl B.2.1)), (a4, .inl (cI, 128, .inl B.2.2.1)), (a5, .inl (cI, 128, .inl B.2.2.2.1)), (g, .inr (1, [.ref b0, .ref b1, .int G.2.2.1, .int G.2.2.2])), (b0, .inl (cI, 64, .inl G.1)), (b1, .inl (cI, 64, .inl G.2.1))] H := hP
  have hD : va_D A [(o, .inl (cL, 1, .inr (.inl fo))), (q, .inr (2, [.ref h, .ref g, .int pr])), (h, .inr (0, [.ref a0, .ref a1, .ref a2, .ref a3, .ref a4, .ref a5, .int B.2.2.2.2.1, .int B.2.2.2.2.2.1, .int B.2.2.2.2.2.2])), (a0, .inl (cI, 128, .inl fi)), (a1, .inl (cI, 128, .inl la)), (a2, .inl (cI, 128, .inl B.1)), (a3, .inl (cI, 128, .inl B.2.1)), (a4, .inl (cI, 128, .inl B.2.2.1)), (a5, .inl (cI, 128, .inl B.2.2.2.1)), (g, .inr (1, [.ref b0, .ref b1, .int G.2.2.1, .int G.2.2.2])), (b0, .inl (cI, 64, .inl G.1)), (b1, .inl (cI, 64, .inl G.2.1))] := hD
  refine lv_aload hx hb dL_wouldPress_0 (lv_at hl 4 rfl) ?_
  refine lv_iconst (v := 0) hx hb dL_wouldPress_2 (by decide) ?_
  refine lv_aload_n hx hb dL_wouldPress_3 rfl (lv_at hl 0 rfl) ?_
  refine lv_iload_n hx hb dL_wouldPress_4 rfl (lv_at hl 1 rfl) ?_
  refine lv_iload_n hx hb dL_wouldPress_5 rfl (lv_at hl 2 rfl) ?_
  refine lv_iload_n hx hb dL_wouldPress_6 rfl (lv_at hl 3 rfl) ?_
  refine px_callV (wr := [(o, .inl (cL, 1, .inr (.inl fo)))]) (own := RL) (nL := 6) (q0 := 1) (ci := 2) [1, 2, 3, 4, 5, 6, 7, 8, 9, 10, 11] [0] [.int x, .int y, .int c0] (mX2_wouldPress l D cI q h a0 a1 a2 a3 a4 a5 g b0 b1 fi la B G pr N hfl hN hN1 hN2 x y c0) ⟨hx, hb, hml, hown, hts⟩ (cwV 3 hts gL_wouldPress_X2_wouldPress rfl rfl rfl (by decide +kernel) ⟨by dsimp only [pq_R]; omega, by dsimp only [pq_R]; omega⟩) pq_blE (hE.1.call hD hS hA [1, 2, 3, 4, 5, 6, 7, 8, 9, 10, 11] rfl) (hK.sub [0] rfl) hP hD hS hA rfl (by decide) rfl (by decide) (by decide) rfl rfl rfl rfl hl.1 rfl (Nat.le_of_ble_eq_true rfl) dL_wouldPress_7 ⟨by dsimp only [pq_R]; omega, by dsimp only [pq_R]; omega⟩ (fun Ex ce q9 w1 H locs hq hP hD hS hce hcv hcl => ?_) (fun v w1 H locs hq hP hD hS hz => ?_)
  · obtain ⟨rfl, hbad⟩ := hq
    have hP : va_P D vwCl [(o, .inl (cL, 1, .inr (.inl fo))), (q, .inr (2, [.ref h, .ref g, .int pr])), (h, .inr (0, [.ref a0, .ref a1, .ref a2, .ref a3, .ref a4, .ref a5, .int B.2.2.2.2.1, .int B.2.2.2.2.2.1, .int B.2.2.2.2.2.2])), (a0, .inl (cI, 128, .inl fi)), (a1, .inl (cI, 128, .inl la)), (a2, .inl (cI, 128, .inl B.1)), (a3, .inl (cI, 128, .inl B.2.1)), (a4, .inl (cI, 128, .inl B.2.2.1)), (a5, .inl (cI, 128, .inl B.2.2.2.1)), (g, .inr (1, [.ref b0, .ref b1, .int G.2.2.1, .int G.2.2.2])), (b0, .inl (cI, 64, .inl G.1)), (b1, .inl (cI, 64, .inl G.2.1))] H := hP
    have hD : va_D A [(o, .inl (cL, 1, .inr (.inl fo))), (q, .inr (2, [.ref h, .ref g, .int pr])), (h, .inr (0, [.ref a0, .ref a1, .ref a2, .ref a3, .ref a4, .ref a5, .int B.2.2.2.2.1, .int B.2.2.2.2.2.1, .int B.2.2.2.2.2.2])), (a0, .inl (cI, 128, .inl fi)), (a1, .inl (cI, 128, .inl la)), (a2, .inl (cI, 128, .inl B.1)), (a3, .inl (cI, 128, .inl B.2.1)), (a4, .inl (cI, 128, .inl B.2.2.1)), (a5, .inl (cI, 128, .inl B.2.2.2.1)), (g, .inr (1, [.ref b0, .ref b1, .int G.2.2.1, .int G.2.2.2])), (b0, .inl (cI, 64, .inl G.1)), (b1, .inl (cI, 64, .inl G.2.1))] := hD
    rcases hbad with ⟨hcd, rfl⟩ | ⟨hcd, rfl⟩
    · refine vx_catch (name := "java/lang/IndexOutOfBoundsException") hown [] ⟨0, 12, 15, 18⟩ [⟨0, 12, 19, 13⟩] (htab.trans rfl) (fun _ h => nomatch h) (by decide) (by decide) (hts (.classLink RL 18 "java/lang/IndexOutOfBoundsException") (by decide +kernel)) (va_Nw.use rfl (hE.1.1.2.1 _ (List.mem_of_getElem? (i := 4) rfl))) hce hcv hcl ?_
      refine W.widen (k := 4) (n := 24) (by omega) (by omega) ?_
      refine lv_astore (lv' := [(5, .ref q9), (0, .ref q), (1, .int x), (2, .int y), (3, .int c0), (4, .ref o)]) hx hb dL_wouldPress_15 hl (by decide) rfl (fun ls hl => ?_)
      refine lv_iconst (v := 1) hx hb dL_wouldPress_17 (by decide) ?_
      exact pq_iret hQ hx hb hr hlocks hK hS hP hD dL_wouldPress_18 (by omega) (by omega) (Or.inr ⟨by rw [hcd]; decide, by rw [hcd], rfl⟩)
    · refine vx_catch (name := "java/lang/IllegalArgumentException") hown [⟨0, 12, 15, 18⟩] ⟨0, 12, 19, 13⟩ [] (htab.trans rfl) (List.forall_mem_cons.mpr ⟨Or.inr ⟨by decide, "java/lang/IndexOutOfBoundsException", hts (.classLink RL 18 "java/lang/IndexOutOfBoundsException") (by decide +kernel), hE.2.1⟩, fun _ h => nomatch h⟩) (by decide) (by decide) (hts (.classLink RL 13 "java/lang/IllegalArgumentException") (by decide +kernel)) (va_Nw.use rfl (hE.1.1.2.1 _ (List.mem_of_getElem? (i := 3) rfl))) hce hcv hcl ?_
      refine W.widen (k := 4) (n := 24) (by omega) (by omega) ?_
      refine lv_astore (lv' := [(5, .ref q9), (0, .ref q), (1, .int x), (2, .int y), (3, .int c0), (4, .ref o)]) hx hb dL_wouldPress_19 hl (by decide) rfl (fun ls hl => ?_)
      refine lv_iconst (v := 2) hx hb dL_wouldPress_21 (by decide) ?_
      exact pq_iret hQ hx hb hr hlocks hK hS hP hD dL_wouldPress_22 (by omega) (by omega) (Or.inr ⟨by rw [hcd]; decide, by rw [hcd], rfl⟩)
  · obtain ⟨r, hv⟩ : ∃ r : Int32, v = some (.int r) := (by obtain ⟨kf, kt, -, -, -, -, h, -⟩ := hq; exact ⟨_, h⟩)
    subst hv
    have hP : va_P D vwCl ((o, .inl (cL, 1, .inr (.inl fo))) :: w1) H := hP
    have hD : va_D A ((o, .inl (cL, 1, .inr (.inl fo))) :: w1) := hD
    refine W.widen (k := 4) (n := 24) (by omega) (by omega) ?_
    refine W.eq (g2 := F0 m 10 ls [.int r, .int 0, .ref o]) rfl ?_
    refine lv_i2l hx hb dL_wouldPress_10 rfl ?_
    refine pq_last hx hb hK hP hD hS 0 1 rfl rfl dL_wouldPress_11 (fun H locs hP hD hS => ?_)
    have hP : va_P D vwCl ((o, .inl (cL, 1, .inr (.inl (vp_updL fo 0 r.toInt64)))) :: w1) H := hP
    have hD : va_D A ((o, .inl (cL, 1, .inr (.inl (vp_updL fo 0 r.toInt64)))) :: w1) := hD
    refine lv_goto (tgt := 23) hx hb dL_wouldPress_12 (by decide) ?_
    refine lv_iconst (v := 0) hx hb dL_wouldPress_23 (by decide) ?_
    exact pq_iret hQ hx hb hr hlocks hK hS hP hD dL_wouldPress_24 (by omega) (by omega) (Or.inl ⟨r, w1, hq, rfl, rfl⟩)

set_option maxHeartbeats 4000000 in
set_option maxRecDepth 100000 in
theorem mL_ceilingFor (l : Launch) (D : va_G) (cI cL : ClassId) (o : Nat) (fo : Nat → Int64) (q h a0 a1 a2 a3 a4 a5 g b0 b1 : Nat) (fi la : Nat → Int32) (B : BK) (G : GK) (pr : Int32) (N : Nat) (hfl : l.stackTraces = false) (hN : G.2.2.1 = nI N) (hN1 : 1 ≤ N) (hN2 : N ≤ 64) (x y w0 : Int32) : pq_M l yL_ceilingFor wsL_ceilingFor 9 167 5 30 D [(cI, .int), (cL, .long)] pq_L ((o, .inl (cL, 1, .inr (.inl fo))) :: ppW q h a0 a1 a2 a3 a4 a5 g b0 b1 cI fi la B G pr) [.ref q, .int x, .int y, .int w0, .ref o] (fun v w1 => (∃ (r : Int32) (wc : va_W), (fun (v : Option Value) (w1 : va_W) => ∃ kf kt, x = nI kf ∧ y = nI kt ∧ kf ≤ kt ∧ kt < N ∧ v = some (.int (gHi (gAbove G.1 kf (kt + 1 - kf)) w0 10 0)) ∧ w1 = ppW q h a0 a1 a2 a3 a4 a5 g b0 b1 cI fi la B G pr ∧ cFor G.2.2.1 G.1 x y w0 = 0) (some (.int r)) wc ∧ v = some (.int 0) ∧ w1 = (o, .inl (cL, 1, .inr (.inl (vp_updL fo 0 r.toInt64)))) :: wc) ∨ (cFor G.2.2.1 G.1 x y w0 ≠ 0 ∧ v = some (.int (cFor G.2.2.1 G.1 x y w0)) ∧ w1 = ((o, .inl (cL, 1, .inr (.inl fo))) :: ppW q h a0 a1 a2 a3 a4 a5 g b0 b1 cI fi la B G pr))) := by
  refine pq_lenter (cc := cL_ceilingFor) (maxL := 6) (ret := (some .int)) (hh := [(0, 12, 15, 18), (0, 12, 19, 13), (0, 12, 23, 48)]) (by decide) rfl (Nat.le_of_ble_eq_true rfl) ?_
  intro p ev s m args below meth cd A ls Q H locs hx hb hr hml hts hown hlocks htab hK hP hD hS hA hE hl hQ
  have hl : lv_has ls 6 [(0, .ref q), (1, .int x), (2, .int y), (3, .int w0), (4, .ref o)] := hl
  have hP : va_P D vwCl [(o, .inl (cL, 1, .inr (.inl fo))), (q, .inr (2, [.ref h, .ref g, .int pr])), (h, .inr (0, [.ref a0, .ref a1, .ref a2, .ref a3, .ref a4, .ref a5, .int B.2.2.2.2.1, .int B.2.2.2.2.2.1, .int B.2.2.2.2.2.2])), (a0, .inl (cI, 128, .inl fi)), (a1, .inl (cI, 128, .inl la)), (a2, .inl (cI, 128, .inl B.1)), (a3, .inl (cI, 128, .inl B.2.1)), (a4, .inl (cI, 128, .inl B.2.2.1)), (a5, .inl (cI, 128, .inl B.2.2.2.1)), (g, .inr (1, [.ref b0, .ref b1, .int G.2.2.1, .int G.2.2.2])), (b0, .inl (cI, 64, .inl G.1)), (b1, .inl (cI, 64, .inl G.2.1))] H := hP
  have hD : va_D A [(o, .inl (cL, 1, .inr (.inl fo))), (q, .inr (2, [.ref h, .ref g, .int pr])), (h, .inr (0, [.ref a0, .ref a1, .ref a2, .ref a3, .ref a4, .ref a5, .int B.2.2.2.2.1, .int B.2.2.2.2.2.1, .int B.2.2.2.2.2.2])), (a0, .inl (cI, 128, .inl fi)), (a1, .inl (cI, 128, .inl la)), (a2, .inl (cI, 128, .inl B.1)), (a3, .inl (cI, 128, .inl B.2.1)), (a4, .inl (cI, 128, .inl B.2.2.1)), (a5, .inl (cI, 128, .inl B.2.2.2.1)), (g, .inr (1, [.ref b0, .ref b1, .int G.2.2.1, .int G.2.2.2])), (b0, .inl (cI, 64, .inl G.1)), (b1, .inl (cI, 64, .inl G.2.1))] := hD
  refine lv_aload hx hb dL_ceilingFor_0 (lv_at hl 4 rfl) ?_
  refine lv_iconst (v := 0) hx hb dL_ceilingFor_2 (by decide) ?_
  refine lv_aload_n hx hb dL_ceilingFor_3 rfl (lv_at hl 0 rfl) ?_
  refine lv_iload_n hx hb dL_ceilingFor_4 rfl (lv_at hl 1 rfl) ?_
  refine lv_iload_n hx hb dL_ceilingFor_5 rfl (lv_at hl 2 rfl) ?_
  refine lv_iload_n hx hb dL_ceilingFor_6 rfl (lv_at hl 3 rfl) ?_
  refine px_callV (wr := [(o, .inl (cL, 1, .inr (.inl fo)))]) (own := RL) (nL := 6) (q0 := 1) (ci := 2) [1, 2, 3, 4, 5, 6, 7, 8, 9, 10, 11] [0] [.int x, .int y, .int w0] (mX2_ceilingFor l D cI q h a0 a1 a2 a3 a4 a5 g b0 b1 fi la B G pr N hfl hN hN1 hN2 x y w0) ⟨hx, hb, hml, hown, hts⟩ (cwV 3 hts gL_ceilingFor_X2_ceilingFor rfl rfl rfl (by decide +kernel) ⟨by dsimp only [pq_R]; omega, by dsimp only [pq_R]; omega⟩) pq_blE (hE.1.call hD hS hA [1, 2, 3, 4, 5, 6, 7, 8, 9, 10, 11] rfl) (hK.sub [0] rfl) hP hD hS hA rfl (by decide) rfl (by decide) (by decide) rfl rfl rfl rfl hl.1 rfl (Nat.le_of_ble_eq_true rfl) dL_ceilingFor_7 ⟨by dsimp only [pq_R]; omega, by dsimp only [pq_R]; omega⟩ (fun Ex ce q9 w1 H locs hq hP hD hS hce hcv hcl => ?_) (fun v w1 H locs hq hP hD hS hz => ?_)
  · obtain ⟨rfl, hbad⟩ := hq
    have hP : va_P D vwCl [(o, .inl (cL, 1, .inr (.inl fo))), (q, .inr (2, [.ref h, .ref g, .int pr])), (h, .inr (0, [.ref a0, .ref a1, .ref a2, .ref a3, .ref a4, .ref a5, .int B.2.2.2.2.1, .int B.2.2.2.2.2.1, .int B.2.2.2.2.2.2])), (a0, .inl (cI, 128, .inl fi)), (a1, .inl (cI, 128, .inl la)), (a2, .inl (cI, 128, .inl B.1)), (a3, .inl (cI, 128, .inl B.2.1)), (a4, .inl (cI, 128, .inl B.2.2.1)), (a5, .inl (cI, 128, .inl B.2.2.2.1)), (g, .inr (1, [.ref b0, .ref b1, .int G.2.2.1, .int G.2.2.2])), (b0, .inl (cI, 64, .inl G.1)), (b1, .inl (cI, 64, .inl G.2.1))] H := hP
    have hD : va_D A [(o, .inl (cL, 1, .inr (.inl fo))), (q, .inr (2, [.ref h, .ref g, .int pr])), (h, .inr (0, [.ref a0, .ref a1, .ref a2, .ref a3, .ref a4, .ref a5, .int B.2.2.2.2.1, .int B.2.2.2.2.2.1, .int B.2.2.2.2.2.2])), (a0, .inl (cI, 128, .inl fi)), (a1, .inl (cI, 128, .inl la)), (a2, .inl (cI, 128, .inl B.1)), (a3, .inl (cI, 128, .inl B.2.1)), (a4, .inl (cI, 128, .inl B.2.2.1)), (a5, .inl (cI, 128, .inl B.2.2.2.1)), (g, .inr (1, [.ref b0, .ref b1, .int G.2.2.1, .int G.2.2.2])), (b0, .inl (cI, 64, .inl G.1)), (b1, .inl (cI, 64, .inl G.2.1))] := hD
    rcases hbad with ⟨hcd, rfl⟩ | ⟨hcd, rfl⟩ | ⟨hcd, rfl⟩
    · refine vx_catch (name := "java/lang/IndexOutOfBoundsException") hown [] ⟨0, 12, 15, 18⟩ [⟨0, 12, 19, 13⟩, ⟨0, 12, 23, 48⟩] (htab.trans rfl) (fun _ h => nomatch h) (by decide) (by decide) (hts (.classLink RL 18 "java/lang/IndexOutOfBoundsException") (by decide +kernel)) (va_Nw.use rfl (hE.1.1.2.1 _ (List.mem_of_getElem? (i := 4) rfl))) hce hcv hcl ?_
      refine W.widen (k := 5) (n := 30) (by omega) (by omega) ?_
      refine lv_astore (lv' := [(5, .ref q9), (0, .ref q), (1, .int x), (2, .int y), (3, .int w0), (4, .ref o)]) hx hb dL_ceilingFor_15 hl (by decide) rfl (fun ls hl => ?_)
      refine lv_iconst (v := 1) hx hb dL_ceilingFor_17 (by decide) ?_
      exact pq_iret hQ hx hb hr hlocks hK hS hP hD dL_ceilingFor_18 (by omega) (by omega) (Or.inr ⟨by rw [hcd]; decide, by rw [hcd], rfl⟩)
    · refine vx_catch (name := "java/lang/IllegalArgumentException") hown [⟨0, 12, 15, 18⟩] ⟨0, 12, 19, 13⟩ [⟨0, 12, 23, 48⟩] (htab.trans rfl) (List.forall_mem_cons.mpr ⟨Or.inr ⟨by decide, "java/lang/IndexOutOfBoundsException", hts (.classLink RL 18 "java/lang/IndexOutOfBoundsException") (by decide +kernel), hE.2.1⟩, fun _ h => nomatch h⟩) (by decide) (by decide) (hts (.classLink RL 13 "java/lang/IllegalArgumentException") (by decide +kernel)) (va_Nw.use rfl (hE.1.1.2.1 _ (List.mem_of_getElem? (i := 3) rfl))) hce hcv hcl ?_
      refine W.widen (k := 5) (n := 30) (by omega) (by omega) ?_
      refine lv_astore (lv' := [(5, .ref q9), (0, .ref q), (1, .int x), (2, .int y), (3, .int w0), (4, .ref o)]) hx hb dL_ceilingFor_19 hl (by decide) rfl (fun ls hl => ?_)
      refine lv_iconst (v := 2) hx hb dL_ceilingFor_21 (by decide) ?_
      exact pq_iret hQ hx hb hr hlocks hK hS hP hD dL_ceilingFor_22 (by omega) (by omega) (Or.inr ⟨by rw [hcd]; decide, by rw [hcd], rfl⟩)
    · refine vx_catch (name := "java/util/NoSuchElementException") hown [⟨0, 12, 15, 18⟩, ⟨0, 12, 19, 13⟩] ⟨0, 12, 23, 48⟩ [] (htab.trans rfl) (List.forall_mem_cons.mpr ⟨Or.inr ⟨by decide, "java/lang/IndexOutOfBoundsException", hts (.classLink RL 18 "java/lang/IndexOutOfBoundsException") (by decide +kernel), hE.2.2.2.2.1⟩, List.forall_mem_cons.mpr ⟨Or.inr ⟨by decide, "java/lang/IllegalArgumentException", hts (.classLink RL 13 "java/lang/IllegalArgumentException") (by decide +kernel), hE.2.2.2.2.2⟩, fun _ h => nomatch h⟩⟩) (by decide) (by decide) (hts (.classLink RL 48 "java/util/NoSuchElementException") (by decide +kernel)) (va_Nw.use rfl (hE.1.1.2.1 _ (List.mem_of_getElem? (i := 6) rfl))) hce hcv hcl ?_
      refine W.widen (k := 5) (n := 30) (by omega) (by omega) ?_
      refine lv_astore (lv' := [(5, .ref q9), (0, .ref q), (1, .int x), (2, .int y), (3, .int w0), (4, .ref o)]) hx hb dL_ceilingFor_23 hl (by decide) rfl (fun ls hl => ?_)
      refine lv_iconst (v := 3) hx hb dL_ceilingFor_25 (by decide) ?_
      exact pq_iret hQ hx hb hr hlocks hK hS hP hD dL_ceilingFor_26 (by omega) (by omega) (Or.inr ⟨by rw [hcd]; decide, by rw [hcd], rfl⟩)
  · obtain ⟨r, hv⟩ : ∃ r : Int32, v = some (.int r) := (by obtain ⟨kf, kt, -, -, -, -, h, -⟩ := hq; exact ⟨_, h⟩)
    subst hv
    have hP : va_P D vwCl ((o, .inl (cL, 1, .inr (.inl fo))) :: w1) H := hP
    have hD : va_D A ((o, .inl (cL, 1, .inr (.inl fo))) :: w1) := hD
    refine W.widen (k := 5) (n := 30) (by omega) (by omega) ?_
    refine W.eq (g2 := F0 m 10 ls [.int r, .int 0, .ref o]) rfl ?_
    refine lv_i2l hx hb dL_ceilingFor_10 rfl ?_
    refine pq_last hx hb hK hP hD hS 0 1 rfl rfl dL_ceilingFor_11 (fun H locs hP hD hS => ?_)
    have hP : va_P D vwCl ((o, .inl (cL, 1, .inr (.inl (vp_updL fo 0 r.toInt64)))) :: w1) H := hP
    have hD : va_D A ((o, .inl (cL, 1, .inr (.inl (vp_updL fo 0 r.toInt64)))) :: w1) := hD
    refine lv_goto (tgt := 27) hx hb dL_ceilingFor_12 (by decide) ?_
    refine lv_iconst (v := 0) hx hb dL_ceilingFor_27 (by decide) ?_
    exact pq_iret hQ hx hb hr hlocks hK hS hP hD dL_ceilingFor_28 (by omega) (by omega) (Or.inl ⟨r, w1, hq, rfl, rfl⟩)

set_option maxHeartbeats 4000000 in
set_option maxRecDepth 100000 in
theorem mL_ceilingOver (l : Launch) (D : va_G) (cI cL : ClassId) (o : Nat) (fo : Nat → Int64) (q h a0 a1 a2 a3 a4 a5 g b0 b1 : Nat) (fi la : Nat → Int32) (B : BK) (G : GK) (pr : Int32) (N : Nat) (hfl : l.stackTraces = false) (hN : G.2.2.1 = nI N) (hN1 : 1 ≤ N) (hN2 : N ≤ 64) (x : Int32) : pq_M l yL_ceilingOver wsL_ceilingOver 8 143 2 12 D [(cI, .int), (cL, .long)] pq_L ((o, .inl (cL, 1, .inr (.inl fo))) :: ppW q h a0 a1 a2 a3 a4 a5 g b0 b1 cI fi la B G pr) [.ref q, .int x, .ref o] (fun v w1 => (∃ (r : Int32) (wc : va_W), (fun (v : Option Value) (w1 : va_W) => ∃ k, x = nI k ∧ k < N ∧ v = some (.int (G.2.1 k)) ∧ w1 = ppW q h a0 a1 a2 a3 a4 a5 g b0 b1 cI fi la B G pr ∧ cOver G.2.2.1 G.2.1 x = 0) (some (.int r)) wc ∧ v = some (.int 0) ∧ w1 = (o, .inl (cL, 1, .inr (.inl (vp_updL fo 0 r.toInt64)))) :: wc) ∨ (cOver G.2.2.1 G.2.1 x ≠ 0 ∧ v = some (.int (cOver G.2.2.1 G.2.1 x)) ∧ w1 = ((o, .inl (cL, 1, .inr (.inl fo))) :: ppW q h a0 a1 a2 a3 a4 a5 g b0 b1 cI fi la B G pr))) := by
  refine pq_lenter (cc := cL_ceilingOver) (maxL := 4) (ret := (some .int)) (hh := [(0, 9, 12, 18), (0, 9, 15, 48)]) (by decide) rfl (Nat.le_of_ble_eq_true rfl) ?_
  intro p ev s m args below meth cd A ls Q H locs hx hb hr hml hts hown hlocks htab hK hP hD hS hA hE hl hQ
  have hl : lv_has ls 4 [(0, .ref q), (1, .int x), (2, .ref o)] := hl
  have hP : va_P D vwCl [(o, .inl (cL, 1, .inr (.inl fo))), (q, .inr (2, [.ref h, .ref g, .int pr])), (h, .inr (0, [.ref a0, .ref a1, .ref a2, .ref a3, .ref a4, .ref a5, .int B.2.2.2.2.1, .int B.2.2.2.2.2.1, .int B.2.2.2.2.2.2])), (a0, .inl (cI, 128, .inl fi)), (a1, .inl (cI, 128, .inl la)), (a2, .inl (cI, 128, .inl B.1)), (a3, .inl (cI, 128, .inl B.2.1)), (a4, .inl (cI, 128, .inl B.2.2.1)), (a5, .inl (cI, 128, .inl B.2.2.2.1)), (g, .inr (1, [.ref b0, .ref b1, .int G.2.2.1, .int G.2.2.2])), (b0, .inl (cI, 64, .inl G.1)), (b1, .inl (cI, 64, .inl G.2.1))] H := hP
  have hD : va_D A [(o, .inl (cL, 1, .inr (.inl fo))), (q, .inr (2, [.ref h, .ref g, .int pr])), (h, .inr (0, [.ref a0, .ref a1, .ref a2, .ref a3, .ref a4, .ref a5, .int B.2.2.2.2.1, .int B.2.2.2.2.2.1, .int B.2.2.2.2.2.2])), (a0, .inl (cI, 128, .inl fi)), (a1, .inl (cI, 128, .inl la)), (a2, .inl (cI, 128, .inl B.1)), (a3, .inl (cI, 128, .inl B.2.1)), (a4, .inl (cI, 128, .inl B.2.2.1)), (a5, .inl (cI, 128, .inl B.2.2.2.1)), (g, .inr (1, [.ref b0, .ref b1, .int G.2.2.1, .int G.2.2.2])), (b0, .inl (cI, 64, .inl G.1)), (b1, .inl (cI, 64, .inl G.2.1))] := hD
  refine lv_aload_n hx hb dL_ceilingOver_0 rfl (lv_at hl 2 rfl) ?_
  refine lv_iconst (v := 0) hx hb dL_ceilingOver_1 (by decide) ?_
  refine lv_aload_n hx hb dL_ceilingOver_2 rfl (lv_at hl 0 rfl) ?_
  refine lv_iload_n hx hb dL_ceilingOver_3 rfl (lv_at hl 1 rfl) ?_
  refine px_callV (wr := [(o, .inl (cL, 1, .inr (.inl fo)))]) (own := RL) (nL := 4) (q0 := 1) (ci := 2) [1, 2, 3, 4, 5, 6, 7, 8, 9, 10, 11] [0] [.int x] (mX2_ceilingOver l D cI q h a0 a1 a2 a3 a4 a5 g b0 b1 fi la B G pr N hfl hN hN1 hN2 x) ⟨hx, hb, hml, hown, hts⟩ (cwV 1 hts gL_ceilingOver_X2_ceilingOver rfl rfl rfl (by decide +kernel) ⟨by dsimp only [pq_R]; omega, by dsimp only [pq_R]; omega⟩) pq_blE (hE.1.call hD hS hA [1, 2, 3, 4, 5, 6, 7, 8, 9, 10, 11] rfl) (hK.sub [0] rfl) hP hD hS hA rfl (by decide) rfl (by decide) (by decide) rfl rfl rfl rfl hl.1 rfl (Nat.le_of_ble_eq_true rfl) dL_ceilingOver_4 ⟨by dsimp only [pq_R]; omega, by dsimp only [pq_R]; omega⟩ (fun Ex ce q9 w1 H locs hq hP hD hS hce hcv hcl => ?_) (fun v w1 H locs hq hP hD hS hz => ?_)
  · obtain ⟨rfl, hbad⟩ := hq
    have hP : va_P D vwCl [(o, .inl (cL, 1, .inr (.inl fo))), (q, .inr (2, [.ref h, .ref g, .int pr])), (h, .inr (0, [.ref a0, .ref a1, .ref a2, .ref a3, .ref a4, .ref a5, .int B.2.2.2.2.1, .int B.2.2.2.2.2.1, .int B.2.2.2.2.2.2])), (a0, .inl (cI, 128, .inl fi)), (a1, .inl (cI, 128, .inl la)), (a2, .inl (cI, 128, .inl B.1)), (a3, .inl (cI, 128, .inl B.2.1)), (a4, .inl (cI, 128, .inl B.2.2.1)), (a5, .inl (cI, 128, .inl B.2.2.2.1)), (g, .inr (1, [.ref b0, .ref b1, .int G.2.2.1, .int G.2.2.2])), (b0, .inl (cI, 64, .inl G.1)), (b1, .inl (cI, 64, .inl G.2.1))] H := hP
    have hD : va_D A [(o, .inl (cL, 1, .inr (.inl fo))), (q, .inr (2, [.ref h, .ref g, .int pr])), (h, .inr (0, [.ref a0, .ref a1, .ref a2, .ref a3, .ref a4, .ref a5, .int B.2.2.2.2.1, .int B.2.2.2.2.2.1, .int B.2.2.2.2.2.2])), (a0, .inl (cI, 128, .inl fi)), (a1, .inl (cI, 128, .inl la)), (a2, .inl (cI, 128, .inl B.1)), (a3, .inl (cI, 128, .inl B.2.1)), (a4, .inl (cI, 128, .inl B.2.2.1)), (a5, .inl (cI, 128, .inl B.2.2.2.1)), (g, .inr (1, [.ref b0, .ref b1, .int G.2.2.1, .int G.2.2.2])), (b0, .inl (cI, 64, .inl G.1)), (b1, .inl (cI, 64, .inl G.2.1))] := hD
    rcases hbad with ⟨hcd, rfl⟩ | ⟨hcd, rfl⟩
    · refine vx_catch (name := "java/lang/IndexOutOfBoundsException") hown [] ⟨0, 9, 12, 18⟩ [⟨0, 9, 15, 48⟩] (htab.trans rfl) (fun _ h => nomatch h) (by decide) (by decide) (hts (.classLink RL 18 "java/lang/IndexOutOfBoundsException") (by decide +kernel)) (va_Nw.use rfl (hE.1.1.2.1 _ (List.mem_of_getElem? (i := 4) rfl))) hce hcv hcl ?_
      refine W.widen (k := 2) (n := 12) (by omega) (by omega) ?_
      refine lv_astore_n (lv' := [(3, .ref q9), (0, .ref q), (1, .int x), (2, .ref o)]) hx hb dL_ceilingOver_12 rfl hl (by decide) rfl (fun ls hl => ?_)
      refine lv_iconst (v := 1) hx hb dL_ceilingOver_13 (by decide) ?_
      exact pq_iret hQ hx hb hr hlocks hK hS hP hD dL_ceilingOver_14 (by omega) (by omega) (Or.inr ⟨by rw [hcd]; decide, by rw [hcd], rfl⟩)
    · refine vx_catch (name := "java/util/NoSuchElementException") hown [⟨0, 9, 12, 18⟩] ⟨0, 9, 15, 48⟩ [] (htab.trans rfl) (List.forall_mem_cons.mpr ⟨Or.inr ⟨by decide, "java/lang/IndexOutOfBoundsException", hts (.classLink RL 18 "java/lang/IndexOutOfBoundsException") (by decide +kernel), hE.2.2.2.2.1⟩, fun _ h => nomatch h⟩) (by decide) (by decide) (hts (.classLink RL 48 "java/util/NoSuchElementException") (by decide +kernel)) (va_Nw.use rfl (hE.1.1.2.1 _ (List.mem_of_getElem? (i := 6) rfl))) hce hcv hcl ?_
      refine W.widen (k := 2) (n := 12) (by omega) (by omega) ?_
      refine lv_astore_n (lv' := [(3, .ref q9), (0, .ref q), (1, .int x), (2, .ref o)]) hx hb dL_ceilingOver_15 rfl hl (by decide) rfl (fun ls hl => ?_)
      refine lv_iconst (v := 2) hx hb dL_ceilingOver_16 (by decide) ?_
      exact pq_iret hQ hx hb hr hlocks hK hS hP hD dL_ceilingOver_17 (by omega) (by omega) (Or.inr ⟨by rw [hcd]; decide, by rw [hcd], rfl⟩)
  · obtain ⟨r, hv⟩ : ∃ r : Int32, v = some (.int r) := (by obtain ⟨k, -, -, h, -⟩ := hq; exact ⟨_, h⟩)
    subst hv
    have hP : va_P D vwCl ((o, .inl (cL, 1, .inr (.inl fo))) :: w1) H := hP
    have hD : va_D A ((o, .inl (cL, 1, .inr (.inl fo))) :: w1) := hD
    refine W.widen (k := 2) (n := 12) (by omega) (by omega) ?_
    refine W.eq (g2 := F0 m 7 ls [.int r, .int 0, .ref o]) rfl ?_
    refine lv_i2l hx hb dL_ceilingOver_7 rfl ?_
    refine pq_last hx hb hK hP hD hS 0 1 rfl rfl dL_ceilingOver_8 (fun H locs hP hD hS => ?_)
    have hP : va_P D vwCl ((o, .inl (cL, 1, .inr (.inl (vp_updL fo 0 r.toInt64)))) :: w1) H := hP
    have hD : va_D A ((o, .inl (cL, 1, .inr (.inl (vp_updL fo 0 r.toInt64)))) :: w1) := hD
    refine lv_goto (tgt := 18) hx hb dL_ceilingOver_9 (by decide) ?_
    refine lv_iconst (v := 0) hx hb dL_ceilingOver_18 (by decide) ?_
    exact pq_iret hQ hx hb hr hlocks hK hS hP hD dL_ceilingOver_19 (by omega) (by omega) (Or.inl ⟨r, w1, hq, rfl, rfl⟩)

set_option maxHeartbeats 4000000 in
set_option maxRecDepth 100000 in
theorem mL_spanOf (l : Launch) (D : va_G) (cI cL : ClassId) (o : Nat) (fo : Nat → Int64) (q h a0 a1 a2 a3 a4 a5 g b0 b1 : Nat) (fi la : Nat → Int32) (B : BK) (G : GK) (pr : Int32) (N : Nat) (hfl : l.stackTraces = false) (hN : G.2.2.1 = nI N) (hN1 : 1 ≤ N) (hN2 : N ≤ 64) (x : Int32) : pq_M l yL_spanOf wsL_spanOf 8 142 1 6 D [(cI, .int), (cL, .long)] pq_L ((o, .inl (cL, 1, .inr (.inl fo))) :: ppW q h a0 a1 a2 a3 a4 a5 g b0 b1 cI fi la B G pr) [.ref q, .int x, .ref o] (fun v w1 => (∃ (r : Int32) (wc : va_W), (fun (v : Option Value) (w1 : va_W) => ∃ k, x = nI k ∧ 1 ≤ k ∧ k < 128 ∧ v = some (.int (100 * fi k + la k)) ∧ w1 = ppW q h a0 a1 a2 a3 a4 a5 g b0 b1 cI fi la B G pr ∧ cEnt la x = 0) (some (.int r)) wc ∧ v = some (.int 0) ∧ w1 = (o, .inl (cL, 1, .inr (.inl (vp_updL fo 0 r.toInt64)))) :: wc) ∨ (cEnt la x ≠ 0 ∧ v = some (.int (cEnt la x)) ∧ w1 = ((o, .inl (cL, 1, .inr (.inl fo))) :: ppW q h a0 a1 a2 a3 a4 a5 g b0 b1 cI fi la B G pr))) := by
  refine pq_lenter (cc := cL_spanOf) (maxL := 4) (ret := (some .int)) (hh := [(0, 9, 12, 18)]) (by decide) rfl (Nat.le_of_ble_eq_true rfl) ?_
  intro p ev s m args below meth cd A ls Q H locs hx hb hr hml hts hown hlocks htab hK hP hD hS hA hE hl hQ
  have hl : lv_has ls 4 [(0, .ref q), (1, .int x), (2, .ref o)] := hl
  have hP : va_P D vwCl [(o, .inl (cL, 1, .inr (.inl fo))), (q, .inr (2, [.ref h, .ref g, .int pr])), (h, .inr (0, [.ref a0, .ref a1, .ref a2, .ref a3, .ref a4, .ref a5, .int B.2.2.2.2.1, .int B.2.2.2.2.2.1, .int B.2.2.2.2.2.2])), (a0, .inl (cI, 128, .inl fi)), (a1, .inl (cI, 128, .inl la)), (a2, .inl (cI, 128, .inl B.1)), (a3, .inl (cI, 128, .inl B.2.1)), (a4, .inl (cI, 128, .inl B.2.2.1)), (a5, .inl (cI, 128, .inl B.2.2.2.1)), (g, .inr (1, [.ref b0, .ref b1, .int G.2.2.1, .int G.2.2.2])), (b0, .inl (cI, 64, .inl G.1)), (b1, .inl (cI, 64, .inl G.2.1))] H := hP
  have hD : va_D A [(o, .inl (cL, 1, .inr (.inl fo))), (q, .inr (2, [.ref h, .ref g, .int pr])), (h, .inr (0, [.ref a0, .ref a1, .ref a2, .ref a3, .ref a4, .ref a5, .int B.2.2.2.2.1, .int B.2.2.2.2.2.1, .int B.2.2.2.2.2.2])), (a0, .inl (cI, 128, .inl fi)), (a1, .inl (cI, 128, .inl la)), (a2, .inl (cI, 128, .inl B.1)), (a3, .inl (cI, 128, .inl B.2.1)), (a4, .inl (cI, 128, .inl B.2.2.1)), (a5, .inl (cI, 128, .inl B.2.2.2.1)), (g, .inr (1, [.ref b0, .ref b1, .int G.2.2.1, .int G.2.2.2])), (b0, .inl (cI, 64, .inl G.1)), (b1, .inl (cI, 64, .inl G.2.1))] := hD
  refine lv_aload_n hx hb dL_spanOf_0 rfl (lv_at hl 2 rfl) ?_
  refine lv_iconst (v := 0) hx hb dL_spanOf_1 (by decide) ?_
  refine lv_aload_n hx hb dL_spanOf_2 rfl (lv_at hl 0 rfl) ?_
  refine lv_iload_n hx hb dL_spanOf_3 rfl (lv_at hl 1 rfl) ?_
  refine px_callV (wr := [(o, .inl (cL, 1, .inr (.inl fo)))]) (own := RL) (nL := 4) (q0 := 1) (ci := 2) [1, 2, 3, 4, 5, 6, 7, 8, 9, 10, 11] [0] [.int x] (mX2_spanOf l D cI q h a0 a1 a2 a3 a4 a5 g b0 b1 fi la B G pr N hfl hN hN1 hN2 x) ⟨hx, hb, hml, hown, hts⟩ (cwV 1 hts gL_spanOf_X2_spanOf rfl rfl rfl (by decide +kernel) ⟨by dsimp only [pq_R]; omega, by dsimp only [pq_R]; omega⟩) pq_blE (hE.1.call hD hS hA [1, 2, 3, 4, 5, 6, 7, 8, 9, 10, 11] rfl) (hK.sub [0] rfl) hP hD hS hA rfl (by decide) rfl (by decide) (by decide) rfl rfl rfl rfl hl.1 rfl (Nat.le_of_ble_eq_true rfl) dL_spanOf_4 ⟨by dsimp only [pq_R]; omega, by dsimp only [pq_R]; omega⟩ (fun Ex ce q9 w1 H locs hq hP hD hS hce hcv hcl => ?_) (fun v w1 H locs hq hP hD hS hz => ?_)
  · obtain ⟨rfl, hbad⟩ := hq
    have hP : va_P D vwCl [(o, .inl (cL, 1, .inr (.inl fo))), (q, .inr (2, [.ref h, .ref g, .int pr])), (h, .inr (0, [.ref a0, .ref a1, .ref a2, .ref a3, .ref a4, .ref a5, .int B.2.2.2.2.1, .int B.2.2.2.2.2.1, .int B.2.2.2.2.2.2])), (a0, .inl (cI, 128, .inl fi)), (a1, .inl (cI, 128, .inl la)), (a2, .inl (cI, 128, .inl B.1)), (a3, .inl (cI, 128, .inl B.2.1)), (a4, .inl (cI, 128, .inl B.2.2.1)), (a5, .inl (cI, 128, .inl B.2.2.2.1)), (g, .inr (1, [.ref b0, .ref b1, .int G.2.2.1, .int G.2.2.2])), (b0, .inl (cI, 64, .inl G.1)), (b1, .inl (cI, 64, .inl G.2.1))] H := hP
    have hD : va_D A [(o, .inl (cL, 1, .inr (.inl fo))), (q, .inr (2, [.ref h, .ref g, .int pr])), (h, .inr (0, [.ref a0, .ref a1, .ref a2, .ref a3, .ref a4, .ref a5, .int B.2.2.2.2.1, .int B.2.2.2.2.2.1, .int B.2.2.2.2.2.2])), (a0, .inl (cI, 128, .inl fi)), (a1, .inl (cI, 128, .inl la)), (a2, .inl (cI, 128, .inl B.1)), (a3, .inl (cI, 128, .inl B.2.1)), (a4, .inl (cI, 128, .inl B.2.2.1)), (a5, .inl (cI, 128, .inl B.2.2.2.1)), (g, .inr (1, [.ref b0, .ref b1, .int G.2.2.1, .int G.2.2.2])), (b0, .inl (cI, 64, .inl G.1)), (b1, .inl (cI, 64, .inl G.2.1))] := hD
    obtain ⟨hcd, rfl⟩ := hbad
    refine vx_catch (name := "java/lang/IndexOutOfBoundsException") hown [] ⟨0, 9, 12, 18⟩ [] (htab.trans rfl) (fun _ h => nomatch h) (by decide) (by decide) (hts (.classLink RL 18 "java/lang/IndexOutOfBoundsException") (by decide +kernel)) (va_Nw.use rfl (hE.1.1.2.1 _ (List.mem_of_getElem? (i := 4) rfl))) hce hcv hcl ?_
    refine W.widen (k := 1) (n := 6) (by omega) (by omega) ?_
    refine lv_astore_n (lv' := [(3, .ref q9), (0, .ref q), (1, .int x), (2, .ref o)]) hx hb dL_spanOf_12 rfl hl (by decide) rfl (fun ls hl => ?_)
    refine lv_iconst (v := 1) hx hb dL_spanOf_13 (by decide) ?_
    exact pq_iret hQ hx hb hr hlocks hK hS hP hD dL_spanOf_14 (by omega) (by omega) (Or.inr ⟨by rw [hcd]; decide, by rw [hcd], rfl⟩)
  · obtain ⟨r, hv⟩ : ∃ r : Int32, v = some (.int r) := (by obtain ⟨k, -, -, -, h, -⟩ := hq; exact ⟨_, h⟩)
    subst hv
    have hP : va_P D vwCl ((o, .inl (cL, 1, .inr (.inl fo))) :: w1) H := hP
    have hD : va_D A ((o, .inl (cL, 1, .inr (.inl fo))) :: w1) := hD
    refine W.widen (k := 1) (n := 6) (by omega) (by omega) ?_
    refine W.eq (g2 := F0 m 7 ls [.int r, .int 0, .ref o]) rfl ?_
    refine lv_i2l hx hb dL_spanOf_7 rfl ?_
    refine pq_last hx hb hK hP hD hS 0 1 rfl rfl dL_spanOf_8 (fun H locs hP hD hS => ?_)
    have hP : va_P D vwCl ((o, .inl (cL, 1, .inr (.inl (vp_updL fo 0 r.toInt64)))) :: w1) H := hP
    have hD : va_D A ((o, .inl (cL, 1, .inr (.inl (vp_updL fo 0 r.toInt64)))) :: w1) := hD
    refine lv_goto (tgt := 15) hx hb dL_spanOf_9 (by decide) ?_
    refine lv_iconst (v := 0) hx hb dL_spanOf_15 (by decide) ?_
    exact pq_iret hQ hx hb hr hlocks hK hS hP hD dL_spanOf_16 (by omega) (by omega) (Or.inl ⟨r, w1, hq, rfl, rfl⟩)

set_option maxHeartbeats 4000000 in
set_option maxRecDepth 100000 in
theorem mL_greatest (l : Launch) (D : va_G) (cI cL : ClassId) (o : Nat) (fo : Nat → Int64) (q h a0 a1 a2 a3 a4 a5 g b0 b1 : Nat) (fi la : Nat → Int32) (B : BK) (G : GK) (pr : Int32) (N : Nat) (hfl : l.stackTraces = false) (hN : G.2.2.1 = nI N) (hN1 : 1 ≤ N) (hN2 : N ≤ 64) (x : Int32) : pq_M l yL_greatest wsL_greatest 8 142 1 6 D [(cI, .int), (cL, .long)] pq_L ((o, .inl (cL, 1, .inr (.inl fo))) :: ppW q h a0 a1 a2 a3 a4 a5 g b0 b1 cI fi la B G pr) [.ref q, .int x, .ref o] (fun v w1 => (∃ (r : Int32) (wc : va_W), (fun (v : Option Value) (w1 : va_W) => ∃ k, x = nI k ∧ 1 ≤ k ∧ k < 128 ∧ v = some (.int (B.1 k)) ∧ w1 = ppW q h a0 a1 a2 a3 a4 a5 g b0 b1 cI fi la B G pr ∧ cEnt la x = 0) (some (.int r)) wc ∧ v = some (.int 0) ∧ w1 = (o, .inl (cL, 1, .inr (.inl (vp_updL fo 0 r.toInt64)))) :: wc) ∨ (cEnt la x ≠ 0 ∧ v = some (.int (cEnt la x)) ∧ w1 = ((o, .inl (cL, 1, .inr (.inl fo))) :: ppW q h a0 a1 a2 a3 a4 a5 g b0 b1 cI fi la B G pr))) := by
  refine pq_lenter (cc := cL_greatest) (maxL := 4) (ret := (some .int)) (hh := [(0, 9, 12, 18)]) (by decide) rfl (Nat.le_of_ble_eq_true rfl) ?_
  intro p ev s m args below meth cd A ls Q H locs hx hb hr hml hts hown hlocks htab hK hP hD hS hA hE hl hQ
  have hl : lv_has ls 4 [(0, .ref q), (1, .int x), (2, .ref o)] := hl
  have hP : va_P D vwCl [(o, .inl (cL, 1, .inr (.inl fo))), (q, .inr (2, [.ref h, .ref g, .int pr])), (h, .inr (0, [.ref a0, .ref a1, .ref a2, .ref a3, .ref a4, .ref a5, .int B.2.2.2.2.1, .int B.2.2.2.2.2.1, .int B.2.2.2.2.2.2])), (a0, .inl (cI, 128, .inl fi)), (a1, .inl (cI, 128, .inl la)), (a2, .inl (cI, 128, .inl B.1)), (a3, .inl (cI, 128, .inl B.2.1)), (a4, .inl (cI, 128, .inl B.2.2.1)), (a5, .inl (cI, 128, .inl B.2.2.2.1)), (g, .inr (1, [.ref b0, .ref b1, .int G.2.2.1, .int G.2.2.2])), (b0, .inl (cI, 64, .inl G.1)), (b1, .inl (cI, 64, .inl G.2.1))] H := hP
  have hD : va_D A [(o, .inl (cL, 1, .inr (.inl fo))), (q, .inr (2, [.ref h, .ref g, .int pr])), (h, .inr (0, [.ref a0, .ref a1, .ref a2, .ref a3, .ref a4, .ref a5, .int B.2.2.2.2.1, .int B.2.2.2.2.2.1, .int B.2.2.2.2.2.2])), (a0, .inl (cI, 128, .inl fi)), (a1, .inl (cI, 128, .inl la)), (a2, .inl (cI, 128, .inl B.1)), (a3, .inl (cI, 128, .inl B.2.1)), (a4, .inl (cI, 128, .inl B.2.2.1)), (a5, .inl (cI, 128, .inl B.2.2.2.1)), (g, .inr (1, [.ref b0, .ref b1, .int G.2.2.1, .int G.2.2.2])), (b0, .inl (cI, 64, .inl G.1)), (b1, .inl (cI, 64, .inl G.2.1))] := hD
  refine lv_aload_n hx hb dL_greatest_0 rfl (lv_at hl 2 rfl) ?_
  refine lv_iconst (v := 0) hx hb dL_greatest_1 (by decide) ?_
  refine lv_aload_n hx hb dL_greatest_2 rfl (lv_at hl 0 rfl) ?_
  refine lv_iload_n hx hb dL_greatest_3 rfl (lv_at hl 1 rfl) ?_
  refine px_callV (wr := [(o, .inl (cL, 1, .inr (.inl fo)))]) (own := RL) (nL := 4) (q0 := 1) (ci := 2) [1, 2, 3, 4, 5, 6, 7, 8, 9, 10, 11] [0] [.int x] (mX2_greatest l D cI q h a0 a1 a2 a3 a4 a5 g b0 b1 fi la B G pr N hfl hN hN1 hN2 x) ⟨hx, hb, hml, hown, hts⟩ (cwV 1 hts gL_greatest_X2_greatest rfl rfl rfl (by decide +kernel) ⟨by dsimp only [pq_R]; omega, by dsimp only [pq_R]; omega⟩) pq_blE (hE.1.call hD hS hA [1, 2, 3, 4, 5, 6, 7, 8, 9, 10, 11] rfl) (hK.sub [0] rfl) hP hD hS hA rfl (by decide) rfl (by decide) (by decide) rfl rfl rfl rfl hl.1 rfl (Nat.le_of_ble_eq_true rfl) dL_greatest_4 ⟨by dsimp only [pq_R]; omega, by dsimp only [pq_R]; omega⟩ (fun Ex ce q9 w1 H locs hq hP hD hS hce hcv hcl => ?_) (fun v w1 H locs hq hP hD hS hz => ?_)
  · obtain ⟨rfl, hbad⟩ := hq
    have hP : va_P D vwCl [(o, .inl (cL, 1, .inr (.inl fo))), (q, .inr (2, [.ref h, .ref g, .int pr])), (h, .inr (0, [.ref a0, .ref a1, .ref a2, .ref a3, .ref a4, .ref a5, .int B.2.2.2.2.1, .int B.2.2.2.2.2.1, .int B.2.2.2.2.2.2])), (a0, .inl (cI, 128, .inl fi)), (a1, .inl (cI, 128, .inl la)), (a2, .inl (cI, 128, .inl B.1)), (a3, .inl (cI, 128, .inl B.2.1)), (a4, .inl (cI, 128, .inl B.2.2.1)), (a5, .inl (cI, 128, .inl B.2.2.2.1)), (g, .inr (1, [.ref b0, .ref b1, .int G.2.2.1, .int G.2.2.2])), (b0, .inl (cI, 64, .inl G.1)), (b1, .inl (cI, 64, .inl G.2.1))] H := hP
    have hD : va_D A [(o, .inl (cL, 1, .inr (.inl fo))), (q, .inr (2, [.ref h, .ref g, .int pr])), (h, .inr (0, [.ref a0, .ref a1, .ref a2, .ref a3, .ref a4, .ref a5, .int B.2.2.2.2.1, .int B.2.2.2.2.2.1, .int B.2.2.2.2.2.2])), (a0, .inl (cI, 128, .inl fi)), (a1, .inl (cI, 128, .inl la)), (a2, .inl (cI, 128, .inl B.1)), (a3, .inl (cI, 128, .inl B.2.1)), (a4, .inl (cI, 128, .inl B.2.2.1)), (a5, .inl (cI, 128, .inl B.2.2.2.1)), (g, .inr (1, [.ref b0, .ref b1, .int G.2.2.1, .int G.2.2.2])), (b0, .inl (cI, 64, .inl G.1)), (b1, .inl (cI, 64, .inl G.2.1))] := hD
    obtain ⟨hcd, rfl⟩ := hbad
    refine vx_catch (name := "java/lang/IndexOutOfBoundsException") hown [] ⟨0, 9, 12, 18⟩ [] (htab.trans rfl) (fun _ h => nomatch h) (by decide) (by decide) (hts (.classLink RL 18 "java/lang/IndexOutOfBoundsException") (by decide +kernel)) (va_Nw.use rfl (hE.1.1.2.1 _ (List.mem_of_getElem? (i := 4) rfl))) hce hcv hcl ?_
    refine W.widen (k := 1) (n := 6) (by omega) (by omega) ?_
    refine lv_astore_n (lv' := [(3, .ref q9), (0, .ref q), (1, .int x), (2, .ref o)]) hx hb dL_greatest_12 rfl hl (by decide) rfl (fun ls hl => ?_)
    refine lv_iconst (v := 1) hx hb dL_greatest_13 (by decide) ?_
    exact pq_iret hQ hx hb hr hlocks hK hS hP hD dL_greatest_14 (by omega) (by omega) (Or.inr ⟨by rw [hcd]; decide, by rw [hcd], rfl⟩)
  · obtain ⟨r, hv⟩ : ∃ r : Int32, v = some (.int r) := (by obtain ⟨k, -, -, -, h, -⟩ := hq; exact ⟨_, h⟩)
    subst hv
    have hP : va_P D vwCl ((o, .inl (cL, 1, .inr (.inl fo))) :: w1) H := hP
    have hD : va_D A ((o, .inl (cL, 1, .inr (.inl fo))) :: w1) := hD
    refine W.widen (k := 1) (n := 6) (by omega) (by omega) ?_
    refine W.eq (g2 := F0 m 7 ls [.int r, .int 0, .ref o]) rfl ?_
    refine lv_i2l hx hb dL_greatest_7 rfl ?_
    refine pq_last hx hb hK hP hD hS 0 1 rfl rfl dL_greatest_8 (fun H locs hP hD hS => ?_)
    have hP : va_P D vwCl ((o, .inl (cL, 1, .inr (.inl (vp_updL fo 0 r.toInt64)))) :: w1) H := hP
    have hD : va_D A ((o, .inl (cL, 1, .inr (.inl (vp_updL fo 0 r.toInt64)))) :: w1) := hD
    refine lv_goto (tgt := 15) hx hb dL_greatest_9 (by decide) ?_
    refine lv_iconst (v := 0) hx hb dL_greatest_15 (by decide) ?_
    exact pq_iret hQ hx hb hr hlocks hK hS hP hD dL_greatest_16 (by omega) (by omega) (Or.inl ⟨r, w1, hq, rfl, rfl⟩)

set_option maxHeartbeats 4000000 in
set_option maxRecDepth 100000 in
theorem mL_second (l : Launch) (D : va_G) (cI cL : ClassId) (o : Nat) (fo : Nat → Int64) (q h a0 a1 a2 a3 a4 a5 g b0 b1 : Nat) (fi la : Nat → Int32) (B : BK) (G : GK) (pr : Int32) (N : Nat) (hfl : l.stackTraces = false) (hN : G.2.2.1 = nI N) (hN1 : 1 ≤ N) (hN2 : N ≤ 64) (x : Int32) : pq_M l yL_second wsL_second 8 142 1 6 D [(cI, .int), (cL, .long)] pq_L ((o, .inl (cL, 1, .inr (.inl fo))) :: ppW q h a0 a1 a2 a3 a4 a5 g b0 b1 cI fi la B G pr) [.ref q, .int x, .ref o] (fun v w1 => (∃ (r : Int32) (wc : va_W), (fun (v : Option Value) (w1 : va_W) => ∃ k, x = nI k ∧ 1 ≤ k ∧ k < 128 ∧ v = some (.int (B.2.1 k)) ∧ w1 = ppW q h a0 a1 a2 a3 a4 a5 g b0 b1 cI fi la B G pr ∧ cEnt la x = 0) (some (.int r)) wc ∧ v = some (.int 0) ∧ w1 = (o, .inl (cL, 1, .inr (.inl (vp_updL fo 0 r.toInt64)))) :: wc) ∨ (cEnt la x ≠ 0 ∧ v = some (.int (cEnt la x)) ∧ w1 = ((o, .inl (cL, 1, .inr (.inl fo))) :: ppW q h a0 a1 a2 a3 a4 a5 g b0 b1 cI fi la B G pr))) := by
  refine pq_lenter (cc := cL_second) (maxL := 4) (ret := (some .int)) (hh := [(0, 9, 12, 18)]) (by decide) rfl (Nat.le_of_ble_eq_true rfl) ?_
  intro p ev s m args below meth cd A ls Q H locs hx hb hr hml hts hown hlocks htab hK hP hD hS hA hE hl hQ
  have hl : lv_has ls 4 [(0, .ref q), (1, .int x), (2, .ref o)] := hl
  have hP : va_P D vwCl [(o, .inl (cL, 1, .inr (.inl fo))), (q, .inr (2, [.ref h, .ref g, .int pr])), (h, .inr (0, [.ref a0, .ref a1, .ref a2, .ref a3, .ref a4, .ref a5, .int B.2.2.2.2.1, .int B.2.2.2.2.2.1, .int B.2.2.2.2.2.2])), (a0, .inl (cI, 128, .inl fi)), (a1, .inl (cI, 128, .inl la)), (a2, .inl (cI, 128, .inl B.1)), (a3, .inl (cI, 128, .inl B.2.1)), (a4, .inl (cI, 128, .inl B.2.2.1)), (a5, .inl (cI, 128, .inl B.2.2.2.1)), (g, .inr (1, [.ref b0, .ref b1, .int G.2.2.1, .int G.2.2.2])), (b0, .inl (cI, 64, .inl G.1)), (b1, .inl (cI, 64, .inl G.2.1))] H := hP
  have hD : va_D A [(o, .inl (cL, 1, .inr (.inl fo))), (q, .inr (2, [.ref h, .ref g, .int pr])), (h, .inr (0, [.ref a0, .ref a1, .ref a2, .ref a3, .ref a4, .ref a5, .int B.2.2.2.2.1, .int B.2.2.2.2.2.1, .int B.2.2.2.2.2.2])), (a0, .inl (cI, 128, .inl fi)), (a1, .inl (cI, 128, .inl la)), (a2, .inl (cI, 128, .inl B.1)), (a3, .inl (cI, 128, .inl B.2.1)), (a4, .inl (cI, 128, .inl B.2.2.1)), (a5, .inl (cI, 128, .inl B.2.2.2.1)), (g, .inr (1, [.ref b0, .ref b1, .int G.2.2.1, .int G.2.2.2])), (b0, .inl (cI, 64, .inl G.1)), (b1, .inl (cI, 64, .inl G.2.1))] := hD
  refine lv_aload_n hx hb dL_second_0 rfl (lv_at hl 2 rfl) ?_
  refine lv_iconst (v := 0) hx hb dL_second_1 (by decide) ?_
  refine lv_aload_n hx hb dL_second_2 rfl (lv_at hl 0 rfl) ?_
  refine lv_iload_n hx hb dL_second_3 rfl (lv_at hl 1 rfl) ?_
  refine px_callV (wr := [(o, .inl (cL, 1, .inr (.inl fo)))]) (own := RL) (nL := 4) (q0 := 1) (ci := 2) [1, 2, 3, 4, 5, 6, 7, 8, 9, 10, 11] [0] [.int x] (mX2_second l D cI q h a0 a1 a2 a3 a4 a5 g b0 b1 fi la B G pr N hfl hN hN1 hN2 x) ⟨hx, hb, hml, hown, hts⟩ (cwV 1 hts gL_second_X2_second rfl rfl rfl (by decide +kernel) ⟨by dsimp only [pq_R]; omega, by dsimp only [pq_R]; omega⟩) pq_blE (hE.1.call hD hS hA [1, 2, 3, 4, 5, 6, 7, 8, 9, 10, 11] rfl) (hK.sub [0] rfl) hP hD hS hA rfl (by decide) rfl (by decide) (by decide) rfl rfl rfl rfl hl.1 rfl (Nat.le_of_ble_eq_true rfl) dL_second_4 ⟨by dsimp only [pq_R]; omega, by dsimp only [pq_R]; omega⟩ (fun Ex ce q9 w1 H locs hq hP hD hS hce hcv hcl => ?_) (fun v w1 H locs hq hP hD hS hz => ?_)
  · obtain ⟨rfl, hbad⟩ := hq
    have hP : va_P D vwCl [(o, .inl (cL, 1, .inr (.inl fo))), (q, .inr (2, [.ref h, .ref g, .int pr])), (h, .inr (0, [.ref a0, .ref a1, .ref a2, .ref a3, .ref a4, .ref a5, .int B.2.2.2.2.1, .int B.2.2.2.2.2.1, .int B.2.2.2.2.2.2])), (a0, .inl (cI, 128, .inl fi)), (a1, .inl (cI, 128, .inl la)), (a2, .inl (cI, 128, .inl B.1)), (a3, .inl (cI, 128, .inl B.2.1)), (a4, .inl (cI, 128, .inl B.2.2.1)), (a5, .inl (cI, 128, .inl B.2.2.2.1)), (g, .inr (1, [.ref b0, .ref b1, .int G.2.2.1, .int G.2.2.2])), (b0, .inl (cI, 64, .inl G.1)), (b1, .inl (cI, 64, .inl G.2.1))] H := hP
    have hD : va_D A [(o, .inl (cL, 1, .inr (.inl fo))), (q, .inr (2, [.ref h, .ref g, .int pr])), (h, .inr (0, [.ref a0, .ref a1, .ref a2, .ref a3, .ref a4, .ref a5, .int B.2.2.2.2.1, .int B.2.2.2.2.2.1, .int B.2.2.2.2.2.2])), (a0, .inl (cI, 128, .inl fi)), (a1, .inl (cI, 128, .inl la)), (a2, .inl (cI, 128, .inl B.1)), (a3, .inl (cI, 128, .inl B.2.1)), (a4, .inl (cI, 128, .inl B.2.2.1)), (a5, .inl (cI, 128, .inl B.2.2.2.1)), (g, .inr (1, [.ref b0, .ref b1, .int G.2.2.1, .int G.2.2.2])), (b0, .inl (cI, 64, .inl G.1)), (b1, .inl (cI, 64, .inl G.2.1))] := hD
    obtain ⟨hcd, rfl⟩ := hbad
    refine vx_catch (name := "java/lang/IndexOutOfBoundsException") hown [] ⟨0, 9, 12, 18⟩ [] (htab.trans rfl) (fun _ h => nomatch h) (by decide) (by decide) (hts (.classLink RL 18 "java/lang/IndexOutOfBoundsException") (by decide +kernel)) (va_Nw.use rfl (hE.1.1.2.1 _ (List.mem_of_getElem? (i := 4) rfl))) hce hcv hcl ?_
    refine W.widen (k := 1) (n := 6) (by omega) (by omega) ?_
    refine lv_astore_n (lv' := [(3, .ref q9), (0, .ref q), (1, .int x), (2, .ref o)]) hx hb dL_second_12 rfl hl (by decide) rfl (fun ls hl => ?_)
    refine lv_iconst (v := 1) hx hb dL_second_13 (by decide) ?_
    exact pq_iret hQ hx hb hr hlocks hK hS hP hD dL_second_14 (by omega) (by omega) (Or.inr ⟨by rw [hcd]; decide, by rw [hcd], rfl⟩)
  · obtain ⟨r, hv⟩ : ∃ r : Int32, v = some (.int r) := (by obtain ⟨k, -, -, -, h, -⟩ := hq; exact ⟨_, h⟩)
    subst hv
    have hP : va_P D vwCl ((o, .inl (cL, 1, .inr (.inl fo))) :: w1) H := hP
    have hD : va_D A ((o, .inl (cL, 1, .inr (.inl fo))) :: w1) := hD
    refine W.widen (k := 1) (n := 6) (by omega) (by omega) ?_
    refine W.eq (g2 := F0 m 7 ls [.int r, .int 0, .ref o]) rfl ?_
    refine lv_i2l hx hb dL_second_7 rfl ?_
    refine pq_last hx hb hK hP hD hS 0 1 rfl rfl dL_second_8 (fun H locs hP hD hS => ?_)
    have hP : va_P D vwCl ((o, .inl (cL, 1, .inr (.inl (vp_updL fo 0 r.toInt64)))) :: w1) H := hP
    have hD : va_D A ((o, .inl (cL, 1, .inr (.inl (vp_updL fo 0 r.toInt64)))) :: w1) := hD
    refine lv_goto (tgt := 15) hx hb dL_second_9 (by decide) ?_
    refine lv_iconst (v := 0) hx hb dL_second_15 (by decide) ?_
    exact pq_iret hQ hx hb hr hlocks hK hS hP hD dL_second_16 (by omega) (by omega) (Or.inl ⟨r, w1, hq, rfl, rfl⟩)

set_option maxHeartbeats 4000000 in
set_option maxRecDepth 100000 in
theorem mL_many (l : Launch) (D : va_G) (cI cL : ClassId) (o : Nat) (fo : Nat → Int64) (q h a0 a1 a2 a3 a4 a5 g b0 b1 : Nat) (fi la : Nat → Int32) (B : BK) (G : GK) (pr : Int32) (N : Nat) (hfl : l.stackTraces = false) (hN : G.2.2.1 = nI N) (hN1 : 1 ≤ N) (hN2 : N ≤ 64) (x : Int32) : pq_M l yL_many wsL_many 8 142 1 6 D [(cI, .int), (cL, .long)] pq_L ((o, .inl (cL, 1, .inr (.inl fo))) :: ppW q h a0 a1 a2 a3 a4 a5 g b0 b1 cI fi la B G pr) [.ref q, .int x, .ref o] (fun v w1 => (∃ (r : Int32) (wc : va_W), (fun (v : Option Value) (w1 : va_W) => ∃ k, x = nI k ∧ 1 ≤ k ∧ k < 128 ∧ v = some (.int (B.2.2.1 k)) ∧ w1 = ppW q h a0 a1 a2 a3 a4 a5 g b0 b1 cI fi la B G pr ∧ cEnt la x = 0) (some (.int r)) wc ∧ v = some (.int 0) ∧ w1 = (o, .inl (cL, 1, .inr (.inl (vp_updL fo 0 r.toInt64)))) :: wc) ∨ (cEnt la x ≠ 0 ∧ v = some (.int (cEnt la x)) ∧ w1 = ((o, .inl (cL, 1, .inr (.inl fo))) :: ppW q h a0 a1 a2 a3 a4 a5 g b0 b1 cI fi la B G pr))) := by
  refine pq_lenter (cc := cL_many) (maxL := 4) (ret := (some .int)) (hh := [(0, 9, 12, 18)]) (by decide) rfl (Nat.le_of_ble_eq_true rfl) ?_
  intro p ev s m args below meth cd A ls Q H locs hx hb hr hml hts hown hlocks htab hK hP hD hS hA hE hl hQ
  have hl : lv_has ls 4 [(0, .ref q), (1, .int x), (2, .ref o)] := hl
  have hP : va_P D vwCl [(o, .inl (cL, 1, .inr (.inl fo))), (q, .inr (2, [.ref h, .ref g, .int pr])), (h, .inr (0, [.ref a0, .ref a1, .ref a2, .ref a3, .ref a4, .ref a5, .int B.2.2.2.2.1, .int B.2.2.2.2.2.1, .int B.2.2.2.2.2.2])), (a0, .inl (cI, 128, .inl fi)), (a1, .inl (cI, 128, .inl la)), (a2, .inl (cI, 128, .inl B.1)), (a3, .inl (cI, 128, .inl B.2.1)), (a4, .inl (cI, 128, .inl B.2.2.1)), (a5, .inl (cI, 128, .inl B.2.2.2.1)), (g, .inr (1, [.ref b0, .ref b1, .int G.2.2.1, .int G.2.2.2])), (b0, .inl (cI, 64, .inl G.1)), (b1, .inl (cI, 64, .inl G.2.1))] H := hP
  have hD : va_D A [(o, .inl (cL, 1, .inr (.inl fo))), (q, .inr (2, [.ref h, .ref g, .int pr])), (h, .inr (0, [.ref a0, .ref a1, .ref a2, .ref a3, .ref a4, .ref a5, .int B.2.2.2.2.1, .int B.2.2.2.2.2.1, .int B.2.2.2.2.2.2])), (a0, .inl (cI, 128, .inl fi)), (a1, .inl (cI, 128, .inl la)), (a2, .inl (cI, 128, .inl B.1)), (a3, .inl (cI, 128, .inl B.2.1)), (a4, .inl (cI, 128, .inl B.2.2.1)), (a5, .inl (cI, 128, .inl B.2.2.2.1)), (g, .inr (1, [.ref b0, .ref b1, .int G.2.2.1, .int G.2.2.2])), (b0, .inl (cI, 64, .inl G.1)), (b1, .inl (cI, 64, .inl G.2.1))] := hD
  refine lv_aload_n hx hb dL_many_0 rfl (lv_at hl 2 rfl) ?_
  refine lv_iconst (v := 0) hx hb dL_many_1 (by decide) ?_
  refine lv_aload_n hx hb dL_many_2 rfl (lv_at hl 0 rfl) ?_
  refine lv_iload_n hx hb dL_many_3 rfl (lv_at hl 1 rfl) ?_
  refine px_callV (wr := [(o, .inl (cL, 1, .inr (.inl fo)))]) (own := RL) (nL := 4) (q0 := 1) (ci := 2) [1, 2, 3, 4, 5, 6, 7, 8, 9, 10, 11] [0] [.int x] (mX2_many l D cI q h a0 a1 a2 a3 a4 a5 g b0 b1 fi la B G pr N hfl hN hN1 hN2 x) ⟨hx, hb, hml, hown, hts⟩ (cwV 1 hts gL_many_X2_many rfl rfl rfl (by decide +kernel) ⟨by dsimp only [pq_R]; omega, by dsimp only [pq_R]; omega⟩) pq_blE (hE.1.call hD hS hA [1, 2, 3, 4, 5, 6, 7, 8, 9, 10, 11] rfl) (hK.sub [0] rfl) hP hD hS hA rfl (by decide) rfl (by decide) (by decide) rfl rfl rfl rfl hl.1 rfl (Nat.le_of_ble_eq_true rfl) dL_many_4 ⟨by dsimp only [pq_R]; omega, by dsimp only [pq_R]; omega⟩ (fun Ex ce q9 w1 H locs hq hP hD hS hce hcv hcl => ?_) (fun v w1 H locs hq hP hD hS hz => ?_)
  · obtain ⟨rfl, hbad⟩ := hq
    have hP : va_P D vwCl [(o, .inl (cL, 1, .inr (.inl fo))), (q, .inr (2, [.ref h, .ref g, .int pr])), (h, .inr (0, [.ref a0, .ref a1, .ref a2, .ref a3, .ref a4, .ref a5, .int B.2.2.2.2.1, .int B.2.2.2.2.2.1, .int B.2.2.2.2.2.2])), (a0, .inl (cI, 128, .inl fi)), (a1, .inl (cI, 128, .inl la)), (a2, .inl (cI, 128, .inl B.1)), (a3, .inl (cI, 128, .inl B.2.1)), (a4, .inl (cI, 128, .inl B.2.2.1)), (a5, .inl (cI, 128, .inl B.2.2.2.1)), (g, .inr (1, [.ref b0, .ref b1, .int G.2.2.1, .int G.2.2.2])), (b0, .inl (cI, 64, .inl G.1)), (b1, .inl (cI, 64, .inl G.2.1))] H := hP
    have hD : va_D A [(o, .inl (cL, 1, .inr (.inl fo))), (q, .inr (2, [.ref h, .ref g, .int pr])), (h, .inr (0, [.ref a0, .ref a1, .ref a2, .ref a3, .ref a4, .ref a5, .int B.2.2.2.2.1, .int B.2.2.2.2.2.1, .int B.2.2.2.2.2.2])), (a0, .inl (cI, 128, .inl fi)), (a1, .inl (cI, 128, .inl la)), (a2, .inl (cI, 128, .inl B.1)), (a3, .inl (cI, 128, .inl B.2.1)), (a4, .inl (cI, 128, .inl B.2.2.1)), (a5, .inl (cI, 128, .inl B.2.2.2.1)), (g, .inr (1, [.ref b0, .ref b1, .int G.2.2.1, .int G.2.2.2])), (b0, .inl (cI, 64, .inl G.1)), (b1, .inl (cI, 64, .inl G.2.1))] := hD
    obtain ⟨hcd, rfl⟩ := hbad
    refine vx_catch (name := "java/lang/IndexOutOfBoundsException") hown [] ⟨0, 9, 12, 18⟩ [] (htab.trans rfl) (fun _ h => nomatch h) (by decide) (by decide) (hts (.classLink RL 18 "java/lang/IndexOutOfBoundsException") (by decide +kernel)) (va_Nw.use rfl (hE.1.1.2.1 _ (List.mem_of_getElem? (i := 4) rfl))) hce hcv hcl ?_
    refine W.widen (k := 1) (n := 6) (by omega) (by omega) ?_
    refine lv_astore_n (lv' := [(3, .ref q9), (0, .ref q), (1, .int x), (2, .ref o)]) hx hb dL_many_12 rfl hl (by decide) rfl (fun ls hl => ?_)
    refine lv_iconst (v := 1) hx hb dL_many_13 (by decide) ?_
    exact pq_iret hQ hx hb hr hlocks hK hS hP hD dL_many_14 (by omega) (by omega) (Or.inr ⟨by rw [hcd]; decide, by rw [hcd], rfl⟩)
  · obtain ⟨r, hv⟩ : ∃ r : Int32, v = some (.int r) := (by obtain ⟨k, -, -, -, h, -⟩ := hq; exact ⟨_, h⟩)
    subst hv
    have hP : va_P D vwCl ((o, .inl (cL, 1, .inr (.inl fo))) :: w1) H := hP
    have hD : va_D A ((o, .inl (cL, 1, .inr (.inl fo))) :: w1) := hD
    refine W.widen (k := 1) (n := 6) (by omega) (by omega) ?_
    refine W.eq (g2 := F0 m 7 ls [.int r, .int 0, .ref o]) rfl ?_
    refine lv_i2l hx hb dL_many_7 rfl ?_
    refine pq_last hx hb hK hP hD hS 0 1 rfl rfl dL_many_8 (fun H locs hP hD hS => ?_)
    have hP : va_P D vwCl ((o, .inl (cL, 1, .inr (.inl (vp_updL fo 0 r.toInt64)))) :: w1) H := hP
    have hD : va_D A ((o, .inl (cL, 1, .inr (.inl (vp_updL fo 0 r.toInt64)))) :: w1) := hD
    refine lv_goto (tgt := 15) hx hb dL_many_9 (by decide) ?_
    refine lv_iconst (v := 0) hx hb dL_many_15 (by decide) ?_
    exact pq_iret hQ hx hb hr hlocks hK hS hP hD dL_many_16 (by omega) (by omega) (Or.inl ⟨r, w1, hq, rfl, rfl⟩)

set_option maxHeartbeats 4000000 in
set_option maxRecDepth 100000 in
theorem mL_noted (l : Launch) (D : va_G) (cI cL : ClassId) (o : Nat) (fo : Nat → Int64) (q h a0 a1 a2 a3 a4 a5 g b0 b1 : Nat) (fi la : Nat → Int32) (B : BK) (G : GK) (pr : Int32) (N : Nat) (hfl : l.stackTraces = false) (hN : G.2.2.1 = nI N) (hN1 : 1 ≤ N) (hN2 : N ≤ 64) (x : Int32) : pq_M l yL_noted wsL_noted 8 142 1 6 D [(cI, .int), (cL, .long)] pq_L ((o, .inl (cL, 1, .inr (.inl fo))) :: ppW q h a0 a1 a2 a3 a4 a5 g b0 b1 cI fi la B G pr) [.ref q, .int x, .ref o] (fun v w1 => (∃ (r : Int32) (wc : va_W), (fun (v : Option Value) (w1 : va_W) => ∃ k, x = nI k ∧ 1 ≤ k ∧ k < 128 ∧ v = some (.int (B.2.2.2.1 k)) ∧ w1 = ppW q h a0 a1 a2 a3 a4 a5 g b0 b1 cI fi la B G pr ∧ cEnt la x = 0) (some (.int r)) wc ∧ v = some (.int 0) ∧ w1 = (o, .inl (cL, 1, .inr (.inl (vp_updL fo 0 r.toInt64)))) :: wc) ∨ (cEnt la x ≠ 0 ∧ v = some (.int (cEnt la x)) ∧ w1 = ((o, .inl (cL, 1, .inr (.inl fo))) :: ppW q h a0 a1 a2 a3 a4 a5 g b0 b1 cI fi la B G pr))) := by
  refine pq_lenter (cc := cL_noted) (maxL := 4) (ret := (some .int)) (hh := [(0, 9, 12, 18)]) (by decide) rfl (Nat.le_of_ble_eq_true rfl) ?_
  intro p ev s m args below meth cd A ls Q H locs hx hb hr hml hts hown hlocks htab hK hP hD hS hA hE hl hQ
  have hl : lv_has ls 4 [(0, .ref q), (1, .int x), (2, .ref o)] := hl
  have hP : va_P D vwCl [(o, .inl (cL, 1, .inr (.inl fo))), (q, .inr (2, [.ref h, .ref g, .int pr])), (h, .inr (0, [.ref a0, .ref a1, .ref a2, .ref a3, .ref a4, .ref a5, .int B.2.2.2.2.1, .int B.2.2.2.2.2.1, .int B.2.2.2.2.2.2])), (a0, .inl (cI, 128, .inl fi)), (a1, .inl (cI, 128, .inl la)), (a2, .inl (cI, 128, .inl B.1)), (a3, .inl (cI, 128, .inl B.2.1)), (a4, .inl (cI, 128, .inl B.2.2.1)), (a5, .inl (cI, 128, .inl B.2.2.2.1)), (g, .inr (1, [.ref b0, .ref b1, .int G.2.2.1, .int G.2.2.2])), (b0, .inl (cI, 64, .inl G.1)), (b1, .inl (cI, 64, .inl G.2.1))] H := hP
  have hD : va_D A [(o, .inl (cL, 1, .inr (.inl fo))), (q, .inr (2, [.ref h, .ref g, .int pr])), (h, .inr (0, [.ref a0, .ref a1, .ref a2, .ref a3, .ref a4, .ref a5, .int B.2.2.2.2.1, .int B.2.2.2.2.2.1, .int B.2.2.2.2.2.2])), (a0, .inl (cI, 128, .inl fi)), (a1, .inl (cI, 128, .inl la)), (a2, .inl (cI, 128, .inl B.1)), (a3, .inl (cI, 128, .inl B.2.1)), (a4, .inl (cI, 128, .inl B.2.2.1)), (a5, .inl (cI, 128, .inl B.2.2.2.1)), (g, .inr (1, [.ref b0, .ref b1, .int G.2.2.1, .int G.2.2.2])), (b0, .inl (cI, 64, .inl G.1)), (b1, .inl (cI, 64, .inl G.2.1))] := hD
  refine lv_aload_n hx hb dL_noted_0 rfl (lv_at hl 2 rfl) ?_
  refine lv_iconst (v := 0) hx hb dL_noted_1 (by decide) ?_
  refine lv_aload_n hx hb dL_noted_2 rfl (lv_at hl 0 rfl) ?_
  refine lv_iload_n hx hb dL_noted_3 rfl (lv_at hl 1 rfl) ?_
  refine px_callV (wr := [(o, .inl (cL, 1, .inr (.inl fo)))]) (own := RL) (nL := 4) (q0 := 1) (ci := 2) [1, 2, 3, 4, 5, 6, 7, 8, 9, 10, 11] [0] [.int x] (mX2_noted l D cI q h a0 a1 a2 a3 a4 a5 g b0 b1 fi la B G pr N hfl hN hN1 hN2 x) ⟨hx, hb, hml, hown, hts⟩ (cwV 1 hts gL_noted_X2_noted rfl rfl rfl (by decide +kernel) ⟨by dsimp only [pq_R]; omega, by dsimp only [pq_R]; omega⟩) pq_blE (hE.1.call hD hS hA [1, 2, 3, 4, 5, 6, 7, 8, 9, 10, 11] rfl) (hK.sub [0] rfl) hP hD hS hA rfl (by decide) rfl (by decide) (by decide) rfl rfl rfl rfl hl.1 rfl (Nat.le_of_ble_eq_true rfl) dL_noted_4 ⟨by dsimp only [pq_R]; omega, by dsimp only [pq_R]; omega⟩ (fun Ex ce q9 w1 H locs hq hP hD hS hce hcv hcl => ?_) (fun v w1 H locs hq hP hD hS hz => ?_)
  · obtain ⟨rfl, hbad⟩ := hq
    have hP : va_P D vwCl [(o, .inl (cL, 1, .inr (.inl fo))), (q, .inr (2, [.ref h, .ref g, .int pr])), (h, .inr (0, [.ref a0, .ref a1, .ref a2, .ref a3, .ref a4, .ref a5, .int B.2.2.2.2.1, .int B.2.2.2.2.2.1, .int B.2.2.2.2.2.2])), (a0, .inl (cI, 128, .inl fi)), (a1, .inl (cI, 128, .inl la)), (a2, .inl (cI, 128, .inl B.1)), (a3, .inl (cI, 128, .inl B.2.1)), (a4, .inl (cI, 128, .inl B.2.2.1)), (a5, .inl (cI, 128, .inl B.2.2.2.1)), (g, .inr (1, [.ref b0, .ref b1, .int G.2.2.1, .int G.2.2.2])), (b0, .inl (cI, 64, .inl G.1)), (b1, .inl (cI, 64, .inl G.2.1))] H := hP
    have hD : va_D A [(o, .inl (cL, 1, .inr (.inl fo))), (q, .inr (2, [.ref h, .ref g, .int pr])), (h, .inr (0, [.ref a0, .ref a1, .ref a2, .ref a3, .ref a4, .ref a5, .int B.2.2.2.2.1, .int B.2.2.2.2.2.1, .int B.2.2.2.2.2.2])), (a0, .inl (cI, 128, .inl fi)), (a1, .inl (cI, 128, .inl la)), (a2, .inl (cI, 128, .inl B.1)), (a3, .inl (cI, 128, .inl B.2.1)), (a4, .inl (cI, 128, .inl B.2.2.1)), (a5, .inl (cI, 128, .inl B.2.2.2.1)), (g, .inr (1, [.ref b0, .ref b1, .int G.2.2.1, .int G.2.2.2])), (b0, .inl (cI, 64, .inl G.1)), (b1, .inl (cI, 64, .inl G.2.1))] := hD
    obtain ⟨hcd, rfl⟩ := hbad
    refine vx_catch (name := "java/lang/IndexOutOfBoundsException") hown [] ⟨0, 9, 12, 18⟩ [] (htab.trans rfl) (fun _ h => nomatch h) (by decide) (by decide) (hts (.classLink RL 18 "java/lang/IndexOutOfBoundsException") (by decide +kernel)) (va_Nw.use rfl (hE.1.1.2.1 _ (List.mem_of_getElem? (i := 4) rfl))) hce hcv hcl ?_
    refine W.widen (k := 1) (n := 6) (by omega) (by omega) ?_
    refine lv_astore_n (lv' := [(3, .ref q9), (0, .ref q), (1, .int x), (2, .ref o)]) hx hb dL_noted_12 rfl hl (by decide) rfl (fun ls hl => ?_)
    refine lv_iconst (v := 1) hx hb dL_noted_13 (by decide) ?_
    exact pq_iret hQ hx hb hr hlocks hK hS hP hD dL_noted_14 (by omega) (by omega) (Or.inr ⟨by rw [hcd]; decide, by rw [hcd], rfl⟩)
  · obtain ⟨r, hv⟩ : ∃ r : Int32, v = some (.int r) := (by obtain ⟨k, -, -, -, h, -⟩ := hq; exact ⟨_, h⟩)
    subst hv
    have hP : va_P D vwCl ((o, .inl (cL, 1, .inr (.inl fo))) :: w1) H := hP
    have hD : va_D A ((o, .inl (cL, 1, .inr (.inl fo))) :: w1) := hD
    refine W.widen (k := 1) (n := 6) (by omega) (by omega) ?_
    refine W.eq (g2 := F0 m 7 ls [.int r, .int 0, .ref o]) rfl ?_
    refine lv_i2l hx hb dL_noted_7 rfl ?_
    refine pq_last hx hb hK hP hD hS 0 1 rfl rfl dL_noted_8 (fun H locs hP hD hS => ?_)
    have hP : va_P D vwCl ((o, .inl (cL, 1, .inr (.inl (vp_updL fo 0 r.toInt64)))) :: w1) H := hP
    have hD : va_D A ((o, .inl (cL, 1, .inr (.inl (vp_updL fo 0 r.toInt64)))) :: w1) := hD
    refine lv_goto (tgt := 15) hx hb dL_noted_9 (by decide) ?_
    refine lv_iconst (v := 0) hx hb dL_noted_15 (by decide) ?_
    exact pq_iret hQ hx hb hr hlocks hK hS hP hD dL_noted_16 (by omega) (by omega) (Or.inl ⟨r, w1, hq, rfl, rfl⟩)
