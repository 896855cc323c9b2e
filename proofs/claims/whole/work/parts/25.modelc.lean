set_option maxHeartbeats 4000000 in
set_option maxRecDepth 100000 in
theorem mX3_asks1 (l : Launch) (D : va_G) (cI : ClassId) (mo z1 z2 z3 z4 z5 z6 z7 z8 z9 : Nat) (col : Int32) (hs cs fi la : Nat → Int32) (B : BK) (td : Nat → Int32) (lf laid piled prs thr : Int32) (kf kt : Nat) (hsp : ∀ e, e < 128 → ¬ la e ≤ fi e → e < 64) (hch : ∀ e, 1 ≤ e → e < 64 → ¬ la e ≤ fi e → fi (2 * e) ≤ la (2 * e) ∧ fi (2 * e + 1) ≤ la (2 * e + 1)) (hrt : fi 1 ≤ la 1) : pq_M l yX3_asks wsX3_asks 3 66 0 0 D [(cI, .int)] pq_0 (mdW mo z1 z2 z3 z4 z5 z6 z7 z8 z9 cI col hs cs fi la B td lf laid piled prs thr) [.ref mo, .int (nI kf), .int (nI kt), .int 1] (fun v w1 => v = some (.int (mSum fi la (nI kf) (nI kt) 7 (0, bBegin B) 1).1) ∧ (∃ td2, w1 = mdW mo z1 z2 z3 z4 z5 z6 z7 z8 z9 cI col hs cs fi la ((mSum fi la (nI kf) (nI kt) 7 (0, bBegin B) 1).2) td2 0 laid piled prs thr)) := by
  refine pq_enter (cc := cX3_asks) (maxL := 7) (ret := (some .int)) (by decide) rfl (Nat.le_of_ble_eq_true rfl) ?_
  intro p ev s m args below meth cd A ls Q H locs hx hb hr hml hts hown hlocks hnm hK hP hD hS hA hE hl hQ
  have hl : lv_has ls 7 [(0, .ref mo), (1, .int (nI kf)), (2, .int (nI kt)), (3, .int 1)] := hl
  have hP : va_P D vwCl [(mo, .inr (3, [.int col, .ref z1, .ref z2, .ref z3, .ref z4, .ref z5, .ref z6, .ref z7, .ref z8, .ref z9, .int lf, .int B.2.2.2.2.1, .int B.2.2.2.2.2.1, .int B.2.2.2.2.2.2, .int laid, .int piled, .int prs, .int thr])), (z1, .inl (cI, 64, .inl hs)), (z2, .inl (cI, 64, .inl cs)), (z3, .inl (cI, 128, .inl fi)), (z4, .inl (cI, 128, .inl la)), (z5, .inl (cI, 128, .inl B.1)), (z6, .inl (cI, 128, .inl B.2.1)), (z7, .inl (cI, 128, .inl B.2.2.1)), (z8, .inl (cI, 128, .inl B.2.2.2.1)), (z9, .inl (cI, 64, .inl td))] H := hP
  have hD : va_D A [(mo, .inr (3, [.int col, .ref z1, .ref z2, .ref z3, .ref z4, .ref z5, .ref z6, .ref z7, .ref z8, .ref z9, .int lf, .int B.2.2.2.2.1, .int B.2.2.2.2.2.1, .int B.2.2.2.2.2.2, .int laid, .int piled, .int prs, .int thr])), (z1, .inl (cI, 64, .inl hs)), (z2, .inl (cI, 64, .inl cs)), (z3, .inl (cI, 128, .inl fi)), (z4, .inl (cI, 128, .inl la)), (z5, .inl (cI, 128, .inl B.1)), (z6, .inl (cI, 128, .inl B.2.1)), (z7, .inl (cI, 128, .inl B.2.2.1)), (z8, .inl (cI, 128, .inl B.2.2.2.1)), (z9, .inl (cI, 64, .inl td))] := hD
  have hin_X3 : ∀ w ∈ wsX30, w ∈ wsX3_asks := by decide +kernel
  have hf_PressedPlainsModel_77 := hts (.fieldLink RX3 77 "PressedPlainsModel" "left" "I") (by decide +kernel)
  have hf_PressedPlainsModel_34 := hts (.fieldLink RX3 34 "PressedPlainsModel" "todo" "[I") (by decide +kernel)
  have hf_PressedPlainsModel_16 := hts (.fieldLink RX3 16 "PressedPlainsModel" "first" "[I") (by decide +kernel)
  have hf_PressedPlainsModel_19 := hts (.fieldLink RX3 19 "PressedPlainsModel" "last" "[I") (by decide +kernel)
  have hf_PressedPlainsModel_31 := hts (.fieldLink RX3 31 "PressedPlainsModel" "sum" "[I") (by decide +kernel)
  refine lv_aload_n hx hb dX3_asks_0 rfl (lv_at hl 0 rfl) ?_
  refine pq_callV (wr := []) (own := RX3) (nL := 7) (q0 := 0) (ci := 3) [0, 1, 2, 3, 4, 5, 6, 7, 8, 9] [] [] (mX3_begins l D cI mo z1 z2 z3 z4 z5 z6 z7 z8 z9 col hs cs fi la B td lf laid piled prs thr ) ⟨hx, hb, hml, hown, hts⟩ (cwV 0 hts gX3_asks_X3_begins rfl rfl rfl (by decide +kernel) ⟨by dsimp only [pq_R]; omega, by dsimp only [pq_R]; omega⟩) pq_bl0 (fun _ _ _ => trivial) hK hP hD hS hA rfl (by decide) rfl (by decide) (by decide) rfl rfl rfl rfl hl.1 rfl (Nat.le_of_ble_eq_true rfl) dX3_asks_1 ⟨by dsimp only [pq_R]; omega, by dsimp only [pq_R]; omega⟩ (fun v w1 H locs hq hP hD hS hz => ?_)
  obtain ⟨rfl, rfl⟩ := hq
  obtain ⟨B_1, hB_1⟩ : ∃ zz, zz = bBegin B := ⟨_, rfl⟩
  rw [← hB_1] at hP hD
  have hP : va_P D vwCl [(mo, .inr (3, [.int col, .ref z1, .ref z2, .ref z3, .ref z4, .ref z5, .ref z6, .ref z7, .ref z8, .ref z9, .int (nI (0 + 1)), .int B_1.2.2.2.2.1, .int B_1.2.2.2.2.2.1, .int B_1.2.2.2.2.2.2, .int laid, .int piled, .int prs, .int thr])), (z1, .inl (cI, 64, .inl hs)), (z2, .inl (cI, 64, .inl cs)), (z3, .inl (cI, 128, .inl fi)), (z4, .inl (cI, 128, .inl la)), (z5, .inl (cI, 128, .inl B_1.1)), (z6, .inl (cI, 128, .inl B_1.2.1)), (z7, .inl (cI, 128, .inl B_1.2.2.1)), (z8, .inl (cI, 128, .inl B_1.2.2.2.1)), (z9, .inl (cI, 64, .inl (upd td 0 2)))] H := hP
  have hD : va_D A [(mo, .inr (3, [.int col, .ref z1, .ref z2, .ref z3, .ref z4, .ref z5, .ref z6, .ref z7, .ref z8, .ref z9, .int (nI (0 + 1)), .int B_1.2.2.2.2.1, .int B_1.2.2.2.2.2.1, .int B_1.2.2.2.2.2.2, .int laid, .int piled, .int prs, .int thr])), (z1, .inl (cI, 64, .inl hs)), (z2, .inl (cI, 64, .inl cs)), (z3, .inl (cI, 128, .inl fi)), (z4, .inl (cI, 128, .inl la)), (z5, .inl (cI, 128, .inl B_1.1)), (z6, .inl (cI, 128, .inl B_1.2.1)), (z7, .inl (cI, 128, .inl B_1.2.2.1)), (z8, .inl (cI, 128, .inl B_1.2.2.2.1)), (z9, .inl (cI, 64, .inl (upd td 0 2)))] := hD
  refine W.eq (g2 := F0 m 4 ls []) rfl ?_
  refine lv_iconst (v := 0) hx hb dX3_asks_4 (by decide) ?_
  refine lv_istore (lv' := [(4, .int 0), (0, .ref mo), (1, .int (nI kf)), (2, .int (nI kt)), (3, .int 1)]) hx hb dX3_asks_5 hl (by decide) rfl (fun ls hl => ?_)
  have LS : ∀ (d e L : Nat) (Y : BK) (T : Nat → Int32) (t : Int32), 1 ≤ e → e < 128 → 128 ≤ e * 2 ^ d → L + 2 * d ≤ 14 → fi e ≤ la e → T L = nI (2 * e) → (∀ T' : Nat → Int32, (∀ j, j < L → T' j = T j) → ∀ (H : Heap) (locs : List Loc) (ls : Array Slot), va_P D vwCl [(mo, .inr (3, [.int col, .ref z1, .ref z2, .ref z3, .ref z4, .ref z5, .ref z6, .ref z7, .ref z8, .ref z9, .int (nI L), .int ((mSum fi la (nI kf) (nI kt) d (t, Y) e).2.2.2.2.2.1), .int ((mSum fi la (nI kf) (nI kt) d (t, Y) e).2.2.2.2.2.2.1), .int ((mSum fi la (nI kf) (nI kt) d (t, Y) e).2.2.2.2.2.2.2), .int laid, .int piled, .int prs, .int thr])), (z1, .inl (cI, 64, .inl hs)), (z2, .inl (cI, 64, .inl cs)), (z3, .inl (cI, 128, .inl fi)), (z4, .inl (cI, 128, .inl la)), (z5, .inl (cI, 128, .inl ((mSum fi la (nI kf) (nI kt) d (t, Y) e).2.1))), (z6, .inl (cI, 128, .inl ((mSum fi la (nI kf) (nI kt) d (t, Y) e).2.2.1))), (z7, .inl (cI, 128, .inl ((mSum fi la (nI kf) (nI kt) d (t, Y) e).2.2.2.1))), (z8, .inl (cI, 128, .inl ((mSum fi la (nI kf) (nI kt) d (t, Y) e).2.2.2.2.1))), (z9, .inl (cI, 64, .inl T'))] H → va_D A [(mo, .inr (3, [.int col, .ref z1, .ref z2, .ref z3, .ref z4, .ref z5, .ref z6, .ref z7, .ref z8, .ref z9, .int (nI L), .int ((mSum fi la (nI kf) (nI kt) d (t, Y) e).2.2.2.2.2.1), .int ((mSum fi la (nI kf) (nI kt) d (t, Y) e).2.2.2.2.2.2.1), .int ((mSum fi la (nI kf) (nI kt) d (t, Y) e).2.2.2.2.2.2.2), .int laid, .int piled, .int prs, .int thr])), (z1, .inl (cI, 64, .inl hs)), (z2, .inl (cI, 64, .inl cs)), (z3, .inl (cI, 128, .inl fi)), (z4, .inl (cI, 128, .inl la)), (z5, .inl (cI, 128, .inl ((mSum fi la (nI kf) (nI kt) d (t, Y) e).2.1))), (z6, .inl (cI, 128, .inl ((mSum fi la (nI kf) (nI kt) d (t, Y) e).2.2.1))), (z7, .inl (cI, 128, .inl ((mSum fi la (nI kf) (nI kt) d (t, Y) e).2.2.2.1))), (z8, .inl (cI, 128, .inl ((mSum fi la (nI kf) (nI kt) d (t, Y) e).2.2.2.2.1))), (z9, .inl (cI, 64, .inl T'))] → va_S A s.heap H locs → lv_has ls 7 [(4, .int ((mSum fi la (nI kf) (nI kt) d (t, Y) e).1)), (0, .ref mo), (1, .int (nI kf)), (2, .int (nI kt)), (3, .int 1)] → W p l ev (pq_R 3 66 0 0) s m args below meth cd H locs 0 0 Q (F0 m 7 ls [])) → ∀ (H : Heap) (locs : List Loc) (ls : Array Slot), va_P D vwCl [(mo, .inr (3, [.int col, .ref z1, .ref z2, .ref z3, .ref z4, .ref z5, .ref z6, .ref z7, .ref z8, .ref z9, .int (nI (L + 1)), .int Y.2.2.2.2.1, .int Y.2.2.2.2.2.1, .int Y.2.2.2.2.2.2, .int laid, .int piled, .int prs, .int thr])), (z1, .inl (cI, 64, .inl hs)), (z2, .inl (cI, 64, .inl cs)), (z3, .inl (cI, 128, .inl fi)), (z4, .inl (cI, 128, .inl la)), (z5, .inl (cI, 128, .inl Y.1)), (z6, .inl (cI, 128, .inl Y.2.1)), (z7, .inl (cI, 128, .inl Y.2.2.1)), (z8, .inl (cI, 128, .inl Y.2.2.2.1)), (z9, .inl (cI, 64, .inl T))] H → va_D A [(mo, .inr (3, [.int col, .ref z1, .ref z2, .ref z3, .ref z4, .ref z5, .ref z6, .ref z7, .ref z8, .ref z9, .int (nI (L + 1)), .int Y.2.2.2.2.1, .int Y.2.2.2.2.2.1, .int Y.2.2.2.2.2.2, .int laid, .int piled, .int prs, .int thr])), (z1, .inl (cI, 64, .inl hs)), (z2, .inl (cI, 64, .inl cs)), (z3, .inl (cI, 128, .inl fi)), (z4, .inl (cI, 128, .inl la)), (z5, .inl (cI, 128, .inl Y.1)), (z6, .inl (cI, 128, .inl Y.2.1)), (z7, .inl (cI, 128, .inl Y.2.2.1)), (z8, .inl (cI, 128, .inl Y.2.2.2.1)), (z9, .inl (cI, 64, .inl T))] → va_S A s.heap H locs → lv_has ls 7 [(4, .int t), (0, .ref mo), (1, .int (nI kf)), (2, .int (nI kt)), (3, .int 1)] → W p l ev (pq_R 3 66 0 0) s m args below meth cd H locs 0 0 Q (F0 m 7 ls []) := by
    intro d
    induction d with
    | zero =>
      intro e L Y T t h1 h2 h3
      simp only [Nat.pow_zero, Nat.mul_one] at h3
      omega
    | succ d ih =>
      intro e L Y T t he1 he hd hL hex hT K H locs ls hP hD hS hl
      refine lv_aload_n hx hb dX3_asks_7 rfl (lv_at hl 1 rfl) ?_
      refine va_get (D := D) (ci := 3) (v := .int (nI (L + 1))) (C := RX3) (T := TX3) (N := 18) hx hb hts hin_X3 hown hK hP 0 rfl rfl 10 (by decide) hf_PressedPlainsModel_77 (fun _ h9 => h9) rfl dX3_asks_8 ?_
      refine lv_if_le (tgt := 158) hx hb dX3_asks_11 (by decide) (fun c9 => absurd c9 (nI_ge (a := 0) (b := (L + 1)) (by omega) (by omega))) (fun _ => ?_)
      refine lv_aload_n hx hb dX3_asks_14 rfl (lv_at hl 1 rfl) ?_
      refine lv_dup hx hb dX3_asks_15 rfl ?_
      refine va_get (D := D) (ci := 3) (v := .int (nI (L + 1))) (C := RX3) (T := TX3) (N := 18) hx hb hts hin_X3 hown hK hP 0 rfl rfl 10 (by decide) hf_PressedPlainsModel_77 (fun _ h9 => h9) rfl dX3_asks_16 ?_
      refine lv_iconst (v := 1) hx hb dX3_asks_19 (by decide) ?_
      refine lv_isub hx hb dX3_asks_20 ?_
      refine pq_top (nI L) (nI_pred _) ?_
      refine va_put (D := D) (ci := 3) (v := .int (nI L)) (ty := .int) (C := RX3) (T := TX3) (N := 18) hx hb hts hin_X3 tyX3 tyX3_ok nmX3 hown hK hP hD hS 0 rfl rfl 10 (by decide) hf_PressedPlainsModel_77 (fun _ h9 => h9) rfl (by decide +kernel) rfl rfl (Nat.le_of_ble_eq_true rfl) dX3_asks_21 (fun H locs hP hD hS => ?_)
      have hP : va_P D vwCl [(mo, .inr (3, [.int col, .ref z1, .ref z2, .ref z3, .ref z4, .ref z5, .ref z6, .ref z7, .ref z8, .ref z9, .int (nI L), .int Y.2.2.2.2.1, .int Y.2.2.2.2.2.1, .int Y.2.2.2.2.2.2, .int laid, .int piled, .int prs, .int thr])), (z1, .inl (cI, 64, .inl hs)), (z2, .inl (cI, 64, .inl cs)), (z3, .inl (cI, 128, .inl fi)), (z4, .inl (cI, 128, .inl la)), (z5, .inl (cI, 128, .inl Y.1)), (z6, .inl (cI, 128, .inl Y.2.1)), (z7, .inl (cI, 128, .inl Y.2.2.1)), (z8, .inl (cI, 128, .inl Y.2.2.2.1)), (z9, .inl (cI, 64, .inl T))] H := hP
      have hD : va_D A [(mo, .inr (3, [.int col, .ref z1, .ref z2, .ref z3, .ref z4, .ref z5, .ref z6, .ref z7, .ref z8, .ref z9, .int (nI L), .int Y.2.2.2.2.1, .int Y.2.2.2.2.2.1, .int Y.2.2.2.2.2.2, .int laid, .int piled, .int prs, .int thr])), (z1, .inl (cI, 64, .inl hs)), (z2, .inl (cI, 64, .inl cs)), (z3, .inl (cI, 128, .inl fi)), (z4, .inl (cI, 128, .inl la)), (z5, .inl (cI, 128, .inl Y.1)), (z6, .inl (cI, 128, .inl Y.2.1)), (z7, .inl (cI, 128, .inl Y.2.2.1)), (z8, .inl (cI, 128, .inl Y.2.2.2.1)), (z9, .inl (cI, 64, .inl T))] := hD
      refine lv_aload_n hx hb dX3_asks_24 rfl (lv_at hl 1 rfl) ?_
      refine va_get (D := D) (ci := 3) (v := .ref z9) (C := RX3) (T := TX3) (N := 18) hx hb hts hin_X3 hown hK hP 0 rfl rfl 9 (by decide) hf_PressedPlainsModel_34 (fun _ h9 => h9) rfl dX3_asks_25 ?_
      refine lv_aload_n hx hb dX3_asks_28 rfl (lv_at hl 1 rfl) ?_
      refine va_get (D := D) (ci := 3) (v := .int (nI L)) (C := RX3) (T := TX3) (N := 18) hx hb hts hin_X3 hown hK hP 0 rfl rfl 10 (by decide) hf_PressedPlainsModel_77 (fun _ h9 => h9) rfl dX3_asks_29 ?_
      refine pq_iald hx hb hK hP 9 0 rfl rfl L (by omega) (by decide) dX3_asks_32 ?_
      refine pq_top (nI (2 * e)) hT ?_
      refine lv_iconst (v := 2) hx hb dX3_asks_33 (by decide) ?_
      refine lv_idiv hx hb dX3_asks_34 (by decide) ?_
      refine pq_top (nI e) (pq_half (by omega)) ?_
      refine lv_istore (lv' := [(5, .int (nI e)), (4, .int t), (0, .ref mo), (1, .int (nI kf)), (2, .int (nI kt)), (3, .int 1)]) hx hb dX3_asks_35 hl (by decide) rfl (fun ls hl => ?_)
      refine lv_aload_n hx hb dX3_asks_37 rfl (lv_at hl 2 rfl) ?_
      refine pq_callV (wr := []) (own := RX3) (nL := 7) (q0 := 0) (ci := 3) [0, 1, 2, 3, 4, 5, 6, 7, 8, 9] [] [] (mX3_visited l D cI mo z1 z2 z3 z4 z5 z6 z7 z8 z9 col hs cs fi la Y T (nI L) laid piled prs thr ) ⟨hx, hb, hml, hown, hts⟩ (cwV 0 hts gX3_asks_X3_visited rfl rfl rfl (by decide +kernel) ⟨by dsimp only [pq_R]; omega, by dsimp only [pq_R]; omega⟩) pq_bl0 (fun _ _ _ => trivial) hK hP hD hS hA rfl (by decide) rfl (by decide) (by decide) rfl rfl rfl rfl hl.1 rfl (Nat.le_of_ble_eq_true rfl) dX3_asks_38 ⟨by dsimp only [pq_R]; omega, by dsimp only [pq_R]; omega⟩ (fun v w1 H locs hq hP hD hS hz => ?_)
      obtain ⟨rfl, rfl⟩ := hq
      obtain ⟨B_2, hB_2⟩ : ∃ zz, zz = bVisit Y := ⟨_, rfl⟩
      rw [← hB_2] at hP hD
      have hP : va_P D vwCl [(mo, .inr (3, [.int col, .ref z1, .ref z2, .ref z3, .ref z4, .ref z5, .ref z6, .ref z7, .ref z8, .ref z9, .int (nI L), .int B_2.2.2.2.2.1, .int B_2.2.2.2.2.2.1, .int B_2.2.2.2.2.2.2, .int laid, .int piled, .int prs, .int thr])), (z1, .inl (cI, 64, .inl hs)), (z2, .inl (cI, 64, .inl cs)), (z3, .inl (cI, 128, .inl fi)), (z4, .inl (cI, 128, .inl la)), (z5, .inl (cI, 128, .inl B_2.1)), (z6, .inl (cI, 128, .inl B_2.2.1)), (z7, .inl (cI, 128, .inl B_2.2.2.1)), (z8, .inl (cI, 128, .inl B_2.2.2.2.1)), (z9, .inl (cI, 64, .inl T))] H := hP
      have hD : va_D A [(mo, .inr (3, [.int col, .ref z1, .ref z2, .ref z3, .ref z4, .ref z5, .ref z6, .ref z7, .ref z8, .ref z9, .int (nI L), .int B_2.2.2.2.2.1, .int B_2.2.2.2.2.2.1, .int B_2.2.2.2.2.2.2, .int laid, .int piled, .int prs, .int thr])), (z1, .inl (cI, 64, .inl hs)), (z2, .inl (cI, 64, .inl cs)), (z3, .inl (cI, 128, .inl fi)), (z4, .inl (cI, 128, .inl la)), (z5, .inl (cI, 128, .inl B_2.1)), (z6, .inl (cI, 128, .inl B_2.2.1)), (z7, .inl (cI, 128, .inl B_2.2.2.1)), (z8, .inl (cI, 128, .inl B_2.2.2.2.1)), (z9, .inl (cI, 64, .inl T))] := hD
      refine W.eq (g2 := F0 m 41 ls []) rfl ?_
      have J3 : ∀ (v : Int32), v = (if mNo fi la e (nI kf) (nI kt) then 1 else 0) → ∀ (H : Heap) (locs : List Loc) (ls : Array Slot), va_P D vwCl [(mo, .inr (3, [.int col, .ref z1, .ref z2, .ref z3, .ref z4, .ref z5, .ref z6, .ref z7, .ref z8, .ref z9, .int (nI L), .int B_2.2.2.2.2.1, .int B_2.2.2.2.2.2.1, .int B_2.2.2.2.2.2.2, .int laid, .int piled, .int prs, .int thr])), (z1, .inl (cI, 64, .inl hs)), (z2, .inl (cI, 64, .inl cs)), (z3, .inl (cI, 128, .inl fi)), (z4, .inl (cI, 128, .inl la)), (z5, .inl (cI, 128, .inl B_2.1)), (z6, .inl (cI, 128, .inl B_2.2.1)), (z7, .inl (cI, 128, .inl B_2.2.2.1)), (z8, .inl (cI, 128, .inl B_2.2.2.2.1)), (z9, .inl (cI, 64, .inl T))] H → va_D A [(mo, .inr (3, [.int col, .ref z1, .ref z2, .ref z3, .ref z4, .ref z5, .ref z6, .ref z7, .ref z8, .ref z9, .int (nI L), .int B_2.2.2.2.2.1, .int B_2.2.2.2.2.2.1, .int B_2.2.2.2.2.2.2, .int laid, .int piled, .int prs, .int thr])), (z1, .inl (cI, 64, .inl hs)), (z2, .inl (cI, 64, .inl cs)), (z3, .inl (cI, 128, .inl fi)), (z4, .inl (cI, 128, .inl la)), (z5, .inl (cI, 128, .inl B_2.1)), (z6, .inl (cI, 128, .inl B_2.2.1)), (z7, .inl (cI, 128, .inl B_2.2.2.1)), (z8, .inl (cI, 128, .inl B_2.2.2.2.1)), (z9, .inl (cI, 64, .inl T))] → va_S A s.heap H locs → lv_has ls 7 [(5, .int (nI e)), (4, .int t), (0, .ref mo), (1, .int (nI kf)), (2, .int (nI kt)), (3, .int 1)] → W p l ev (pq_R 3 66 0 0) s m args below meth cd H locs 0 0 Q (F0 m 68 ls [.int v]) := by
        intro v hv H locs ls hP hD hS hl
        by_cases j_3 : mNo fi la e (nI kf) (nI kt)
        · rw [if_pos j_3] at hv
          subst hv
          refine lv_istore (lv' := [(6, .int 1), (5, .int (nI e)), (4, .int t), (0, .ref mo), (1, .int (nI kf)), (2, .int (nI kt)), (3, .int 1)]) hx hb dX3_asks_68 hl (by decide) rfl (fun ls hl => ?_)
          refine lv_iload hx hb dX3_asks_70 (lv_at hl 0 rfl) ?_
          refine lv_if_ne (tgt := 143) hx hb dX3_asks_72 (by decide) (fun _ => ?_) (fun c9 => absurd c9 (by decide))
          refine lv_iload hx hb dX3_asks_143 (lv_at hl 0 rfl) ?_
          refine lv_if_ne (tgt := 155) hx hb dX3_asks_145 (by decide) (fun _ => ?_) (fun c9 => absurd c9 (by decide))
          refine lv_goto (tgt := 7) hx hb dX3_asks_155 (by decide) ?_
          subst hB_2
          have hm : mSum fi la (nI kf) (nI kt) (d + 1) (t, Y) e = (t, bVisit Y) := by rw [mSum, if_pos j_3]
          rw [hm] at K
          exact K T (fun _ _ => rfl) H locs ls hP hD hS (lv_sub hl [2, 3, 4, 5, 6] rfl)
        · rw [if_neg j_3] at hv
          subst hv
          refine lv_istore (lv' := [(6, .int 0), (5, .int (nI e)), (4, .int t), (0, .ref mo), (1, .int (nI kf)), (2, .int (nI kt)), (3, .int 1)]) hx hb dX3_asks_68 hl (by decide) rfl (fun ls hl => ?_)
          refine lv_iload hx hb dX3_asks_70 (lv_at hl 0 rfl) ?_
          refine lv_if_ne (tgt := 143) hx hb dX3_asks_72 (by decide) (fun c9 => absurd c9 (by decide)) (fun _ => ?_)
          refine lv_aload_n hx hb dX3_asks_75 rfl (lv_at hl 3 rfl) ?_
          refine va_get (D := D) (ci := 3) (v := .ref z3) (C := RX3) (T := TX3) (N := 18) hx hb hts hin_X3 hown hK hP 0 rfl rfl 3 (by decide) hf_PressedPlainsModel_16 (fun _ h9 => h9) rfl dX3_asks_76 ?_
          refine lv_iload hx hb dX3_asks_79 (lv_at hl 1 rfl) ?_
          refine pq_iald hx hb hK hP 3 0 rfl rfl e (by omega) (by decide) dX3_asks_81 ?_
          refine lv_iload_n hx hb dX3_asks_82 rfl (lv_at hl 4 rfl) ?_
          refine lv_icmp_lt (tgt := 143) hx hb dX3_asks_83 (by decide) (fun c_4 => ?_) (fun c_4 => ?_)
          · refine lv_iload hx hb dX3_asks_143 (lv_at hl 0 rfl) ?_
            refine lv_if_ne (tgt := 155) hx hb dX3_asks_145 (by decide) (fun c9 => absurd c9 (by decide)) (fun _ => ?_)
            have hnw : ¬ mAll fi la e (nI kf) (nI kt) := fun h => h.1 c_4
            have hne : ¬ fi e = la e := fun h => j_3 (Or.inr (h ▸ c_4))
            have hnl : ¬ la e ≤ fi e := pq_lt_of hex hne
            have he64 : e < 64 := hsp e he hnl
            have hcc := hch e he1 he64 hnl
            refine lv_aload_n hx hb dX3_asks_148 rfl (lv_at hl 3 rfl) ?_
            refine lv_iload hx hb dX3_asks_149 (lv_at hl 1 rfl) ?_
            refine lv_iconst (v := 0) hx hb dX3_asks_151 (by decide) ?_
            refine pq_callV (wr := []) (own := RX3) (nL := 7) (q0 := 0) (ci := 3) [0, 1, 2, 3, 4, 5, 6, 7, 8, 9] [] [.int (nI e), .int 0] (mX3_goesBelow0 l D cI mo z1 z2 z3 z4 z5 z6 z7 z8 z9 col hs cs fi la B_2 T (nI L) laid piled prs thr e L (by omega) (by omega)) ⟨hx, hb, hml, hown, hts⟩ (cwV 2 hts gX3_asks_X3_goesBelow rfl rfl rfl (by decide +kernel) ⟨by dsimp only [pq_R]; omega, by dsimp only [pq_R]; omega⟩) pq_bl0 (fun _ _ _ => trivial) hK hP hD hS hA rfl (by decide) rfl (by decide) (by decide) rfl rfl rfl rfl hl.1 rfl (Nat.le_of_ble_eq_true rfl) dX3_asks_152 ⟨by dsimp only [pq_R]; omega, by dsimp only [pq_R]; omega⟩ (fun v w1 H locs hq hP hD hS hz => ?_)
            obtain ⟨rfl, rfl⟩ := hq
            obtain ⟨B_5, hB_5⟩ : ∃ zz, zz = mCatch2 B_2 e := ⟨_, rfl⟩
            rw [← hB_5] at hP hD
            have hP : va_P D vwCl [(mo, .inr (3, [.int col, .ref z1, .ref z2, .ref z3, .ref z4, .ref z5, .ref z6, .ref z7, .ref z8, .ref z9, .int (nI (L + 2)), .int B_5.2.2.2.2.1, .int B_5.2.2.2.2.2.1, .int B_5.2.2.2.2.2.2, .int laid, .int piled, .int prs, .int thr])), (z1, .inl (cI, 64, .inl hs)), (z2, .inl (cI, 64, .inl cs)), (z3, .inl (cI, 128, .inl fi)), (z4, .inl (cI, 128, .inl la)), (z5, .inl (cI, 128, .inl B_5.1)), (z6, .inl (cI, 128, .inl B_5.2.1)), (z7, .inl (cI, 128, .inl B_5.2.2.1)), (z8, .inl (cI, 128, .inl B_5.2.2.2.1)), (z9, .inl (cI, 64, .inl (upd (upd T L (nI (2 * (2 * e + 1)))) (L + 1) (nI (2 * (2 * e))))))] H := hP
            have hD : va_D A [(mo, .inr (3, [.int col, .ref z1, .ref z2, .ref z3, .ref z4, .ref z5, .ref z6, .ref z7, .ref z8, .ref z9, .int (nI (L + 2)), .int B_5.2.2.2.2.1, .int B_5.2.2.2.2.2.1, .int B_5.2.2.2.2.2.2, .int laid, .int piled, .int prs, .int thr])), (z1, .inl (cI, 64, .inl hs)), (z2, .inl (cI, 64, .inl cs)), (z3, .inl (cI, 128, .inl fi)), (z4, .inl (cI, 128, .inl la)), (z5, .inl (cI, 128, .inl B_5.1)), (z6, .inl (cI, 128, .inl B_5.2.1)), (z7, .inl (cI, 128, .inl B_5.2.2.1)), (z8, .inl (cI, 128, .inl B_5.2.2.2.1)), (z9, .inl (cI, 64, .inl (upd (upd T L (nI (2 * (2 * e + 1)))) (L + 1) (nI (2 * (2 * e))))))] := hD
            refine W.eq (g2 := F0 m 155 ls []) rfl ?_
            refine lv_goto (tgt := 7) hx hb dX3_asks_155 (by decide) ?_
            subst hB_5
            subst hB_2
            have hm : mSum fi la (nI kf) (nI kt) (d + 1) (t, Y) e = mSum fi la (nI kf) (nI kt) d (mSum fi la (nI kf) (nI kt) d (t, (mCatch2 (bVisit Y) e)) (2 * e)) (2 * e + 1) := by rw [mSum, if_neg j_3, if_neg hnw]
            rw [hm] at K
            refine ih (2 * e) (L + 1) (mCatch2 (bVisit Y) e) (upd (upd T L (nI (2 * (2 * e + 1)))) (L + 1) (nI (2 * (2 * e)))) t (by omega) (by omega) (pw_1 hd) (by omega) hcc.1 pk_us (fun T1 hT1 => ?_) H locs ls hP hD hS (lv_sub hl [2, 3, 4, 5, 6] rfl)
            refine ih (2 * e + 1) L (mSum fi la (nI kf) (nI kt) d (t, (mCatch2 (bVisit Y) e)) (2 * e)).2 T1 (mSum fi la (nI kf) (nI kt) d (t, (mCatch2 (bVisit Y) e)) (2 * e)).1 (by omega) (by omega) (pw_2 hd) (by omega) hcc.2 ((hT1 L (by omega)).trans ((pk_un (by omega)).trans  pk_us)) (fun T2 hT2 => ?_)
            exact K T2 (fun j hj => (hT2 j hj).trans ((hT1 j (by omega)).trans ((pk_un (by omega)).trans (pk_un (by omega)))))
          · refine lv_aload_n hx hb dX3_asks_86 rfl (lv_at hl 3 rfl) ?_
            refine va_get (D := D) (ci := 3) (v := .ref z4) (C := RX3) (T := TX3) (N := 18) hx hb hts hin_X3 hown hK hP 0 rfl rfl 4 (by decide) hf_PressedPlainsModel_19 (fun _ h9 => h9) rfl dX3_asks_87 ?_
            refine lv_iload hx hb dX3_asks_90 (lv_at hl 1 rfl) ?_
            refine pq_iald hx hb hK hP 4 0 rfl rfl e (by omega) (by decide) dX3_asks_92 ?_
            refine lv_iload_n hx hb dX3_asks_93 rfl (lv_at hl 5 rfl) ?_
            refine lv_icmp_gt (tgt := 143) hx hb dX3_asks_94 (by decide) (fun c_6 => ?_) (fun c_6 => ?_)
            · refine lv_iload hx hb dX3_asks_143 (lv_at hl 0 rfl) ?_
              refine lv_if_ne (tgt := 155) hx hb dX3_asks_145 (by decide) (fun c9 => absurd c9 (by decide)) (fun _ => ?_)
              have hnw : ¬ mAll fi la e (nI kf) (nI kt) := fun h => h.2 c_6
              have hne : ¬ fi e = la e := fun h => j_3 (Or.inl (h.symm ▸ c_6))
              have hnl : ¬ la e ≤ fi e := pq_lt_of hex hne
              have he64 : e < 64 := hsp e he hnl
              have hcc := hch e he1 he64 hnl
              refine lv_aload_n hx hb dX3_asks_148 rfl (lv_at hl 3 rfl) ?_
              refine lv_iload hx hb dX3_asks_149 (lv_at hl 1 rfl) ?_
              refine lv_iconst (v := 0) hx hb dX3_asks_151 (by decide) ?_
              refine pq_callV (wr := []) (own := RX3) (nL := 7) (q0 := 0) (ci := 3) [0, 1, 2, 3, 4, 5, 6, 7, 8, 9] [] [.int (nI e), .int 0] (mX3_goesBelow0 l D cI mo z1 z2 z3 z4 z5 z6 z7 z8 z9 col hs cs fi la B_2 T (nI L) laid piled prs thr e L (by omega) (by omega)) ⟨hx, hb, hml, hown, hts⟩ (cwV 2 hts gX3_asks_X3_goesBelow rfl rfl rfl (by decide +kernel) ⟨by dsimp only [pq_R]; omega, by dsimp only [pq_R]; omega⟩) pq_bl0 (fun _ _ _ => trivial) hK hP hD hS hA rfl (by decide) rfl (by decide) (by decide) rfl rfl rfl rfl hl.1 rfl (Nat.le_of_ble_eq_true rfl) dX3_asks_152 ⟨by dsimp only [pq_R]; omega, by dsimp only [pq_R]; omega⟩ (fun v w1 H locs hq hP hD hS hz => ?_)
              obtain ⟨rfl, rfl⟩ := hq
              obtain ⟨B_7, hB_7⟩ : ∃ zz, zz = mCatch2 B_2 e := ⟨_, rfl⟩
              rw [← hB_7] at hP hD
              have hP : va_P D vwCl [(mo, .inr (3, [.int col, .ref z1, .ref z2, .ref z3, .ref z4, .ref z5, .ref z6, .ref z7, .ref z8, .ref z9, .int (nI (L + 2)), .int B_7.2.2.2.2.1, .int B_7.2.2.2.2.2.1, .int B_7.2.2.2.2.2.2, .int laid, .int piled, .int prs, .int thr])), (z1, .inl (cI, 64, .inl hs)), (z2, .inl (cI, 64, .inl cs)), (z3, .inl (cI, 128, .inl fi)), (z4, .inl (cI, 128, .inl la)), (z5, .inl (cI, 128, .inl B_7.1)), (z6, .inl (cI, 128, .inl B_7.2.1)), (z7, .inl (cI, 128, .inl B_7.2.2.1)), (z8, .inl (cI, 128, .inl B_7.2.2.2.1)), (z9, .inl (cI, 64, .inl (upd (upd T L (nI (2 * (2 * e + 1)))) (L + 1) (nI (2 * (2 * e))))))] H := hP
              have hD : va_D A [(mo, .inr (3, [.int col, .ref z1, .ref z2, .ref z3, .ref z4, .ref z5, .ref z6, .ref z7, .ref z8, .ref z9, .int (nI (L + 2)), .int B_7.2.2.2.2.1, .int B_7.2.2.2.2.2.1, .int B_7.2.2.2.2.2.2, .int laid, .int piled, .int prs, .int thr])), (z1, .inl (cI, 64, .inl hs)), (z2, .inl (cI, 64, .inl cs)), (z3, .inl (cI, 128, .inl fi)), (z4, .inl (cI, 128, .inl la)), (z5, .inl (cI, 128, .inl B_7.1)), (z6, .inl (cI, 128, .inl B_7.2.1)), (z7, .inl (cI, 128, .inl B_7.2.2.1)), (z8, .inl (cI, 128, .inl B_7.2.2.2.1)), (z9, .inl (cI, 64, .inl (upd (upd T L (nI (2 * (2 * e + 1)))) (L + 1) (nI (2 * (2 * e))))))] := hD
              refine W.eq (g2 := F0 m 155 ls []) rfl ?_
              refine lv_goto (tgt := 7) hx hb dX3_asks_155 (by decide) ?_
              subst hB_7
              subst hB_2
              have hm : mSum fi la (nI kf) (nI kt) (d + 1) (t, Y) e = mSum fi la (nI kf) (nI kt) d (mSum fi la (nI kf) (nI kt) d (t, (mCatch2 (bVisit Y) e)) (2 * e)) (2 * e + 1) := by rw [mSum, if_neg j_3, if_neg hnw]
              rw [hm] at K
              refine ih (2 * e) (L + 1) (mCatch2 (bVisit Y) e) (upd (upd T L (nI (2 * (2 * e + 1)))) (L + 1) (nI (2 * (2 * e)))) t (by omega) (by omega) (pw_1 hd) (by omega) hcc.1 pk_us (fun T1 hT1 => ?_) H locs ls hP hD hS (lv_sub hl [2, 3, 4, 5, 6] rfl)
              refine ih (2 * e + 1) L (mSum fi la (nI kf) (nI kt) d (t, (mCatch2 (bVisit Y) e)) (2 * e)).2 T1 (mSum fi la (nI kf) (nI kt) d (t, (mCatch2 (bVisit Y) e)) (2 * e)).1 (by omega) (by omega) (pw_2 hd) (by omega) hcc.2 ((hT1 L (by omega)).trans ((pk_un (by omega)).trans  pk_us)) (fun T2 hT2 => ?_)
              exact K T2 (fun j hj => (hT2 j hj).trans ((hT1 j (by omega)).trans ((pk_un (by omega)).trans (pk_un (by omega)))))
            · refine lv_iload_n hx hb dX3_asks_97 rfl (lv_at hl 6 rfl) ?_
              refine lv_if_eq (tgt := 114) hx hb dX3_asks_98 (by decide) (fun c9 => absurd c9 (by decide)) (fun _ => ?_)
              refine lv_iload hx hb dX3_asks_101 (lv_at hl 2 rfl) ?_
              refine lv_aload_n hx hb dX3_asks_103 rfl (lv_at hl 3 rfl) ?_
              refine va_get (D := D) (ci := 3) (v := .ref z8) (C := RX3) (T := TX3) (N := 18) hx hb hts hin_X3 hown hK hP 0 rfl rfl 8 (by decide) hf_PressedPlainsModel_31 (fun _ h9 => h9) rfl dX3_asks_104 ?_
              refine lv_iload hx hb dX3_asks_107 (lv_at hl 1 rfl) ?_
              refine pq_iald hx hb hK hP 8 0 rfl rfl e (by omega) (by decide) dX3_asks_109 ?_
              refine lv_iadd hx hb dX3_asks_110 ?_
              refine lv_goto (tgt := 138) hx hb dX3_asks_111 (by decide) ?_
              refine lv_istore (lv' := [(4, .int (t + (B_2.2.2.2.1 e))), (6, .int 0), (5, .int (nI e)), (0, .ref mo), (1, .int (nI kf)), (2, .int (nI kt)), (3, .int 1)]) hx hb dX3_asks_138 hl (by decide) rfl (fun ls hl => ?_)
              refine lv_goto (tgt := 155) hx hb dX3_asks_140 (by decide) ?_
              refine lv_goto (tgt := 7) hx hb dX3_asks_155 (by decide) ?_
              subst hB_2
              have hm : mSum fi la (nI kf) (nI kt) (d + 1) (t, Y) e = (t + (bVisit Y).2.2.2.1 e, bVisit Y) := by rw [mSum, if_neg j_3, if_pos ⟨c_4, c_6⟩]
              rw [hm] at K
              exact K T (fun _ _ => rfl) H locs ls hP hD hS (lv_sub hl [0, 3, 4, 5, 6] rfl)
      refine lv_aload_n hx hb dX3_asks_41 rfl (lv_at hl 2 rfl) ?_
      refine va_get (D := D) (ci := 3) (v := .ref z3) (C := RX3) (T := TX3) (N := 18) hx hb hts hin_X3 hown hK hP 0 rfl rfl 3 (by decide) hf_PressedPlainsModel_16 (fun _ h9 => h9) rfl dX3_asks_42 ?_
      refine lv_iload hx hb dX3_asks_45 (lv_at hl 0 rfl) ?_
      refine pq_iald hx hb hK hP 3 0 rfl rfl e (by omega) (by decide) dX3_asks_47 ?_
      refine lv_iload_n hx hb dX3_asks_48 rfl (lv_at hl 4 rfl) ?_
      refine lv_icmp_gt (tgt := 63) hx hb dX3_asks_49 (by decide) (fun c_8 => ?_) (fun c_8 => ?_)
      · refine lv_iconst (v := 1) hx hb dX3_asks_63 (by decide) ?_
        refine lv_goto (tgt := 68) hx hb dX3_asks_64 (by decide) ?_
        exact J3 _ (by rw [if_pos (show mNo fi la e (nI kf) (nI kt) from Or.inl c_8)]) H locs ls hP hD hS hl
      · refine lv_aload_n hx hb dX3_asks_52 rfl (lv_at hl 2 rfl) ?_
        refine va_get (D := D) (ci := 3) (v := .ref z4) (C := RX3) (T := TX3) (N := 18) hx hb hts hin_X3 hown hK hP 0 rfl rfl 4 (by decide) hf_PressedPlainsModel_19 (fun _ h9 => h9) rfl dX3_asks_53 ?_
        refine lv_iload hx hb dX3_asks_56 (lv_at hl 0 rfl) ?_
        refine pq_iald hx hb hK hP 4 0 rfl rfl e (by omega) (by decide) dX3_asks_58 ?_
        refine lv_iload_n hx hb dX3_asks_59 rfl (lv_at hl 3 rfl) ?_
        refine lv_icmp_ge (tgt := 67) hx hb dX3_asks_60 (by decide) (fun c_9 => ?_) (fun c_9 => ?_)
        · refine lv_iconst (v := 0) hx hb dX3_asks_67 (by decide) ?_
          exact J3 _ (by rw [if_neg (show ¬ (mNo fi la e (nI kf) (nI kt)) from fun h => h.elim c_8 (i_nlt c_9))]) H locs ls hP hD hS hl
        · refine lv_iconst (v := 1) hx hb dX3_asks_63 (by decide) ?_
          refine lv_goto (tgt := 68) hx hb dX3_asks_64 (by decide) ?_
          exact J3 _ (by rw [if_pos (show mNo fi la e (nI kf) (nI kt) from Or.inr (i_lt c_9))]) H locs ls hP hD hS hl
  refine LS 7 1 0 B_1 (upd td 0 2) 0 (by decide) (by decide) (by decide) (by decide) hrt rfl (fun T' _ H locs ls hP hD hS hl => ?_) H locs ls hP hD hS hl
  obtain ⟨Rz, hRz⟩ : ∃ zz, zz = (mSum fi la (nI kf) (nI kt) 7 (0, B_1) 1) := ⟨_, rfl⟩
  rw [← hRz] at hP hD hl
  refine lv_aload_n hx hb dX3_asks_7 rfl (lv_at hl 1 rfl) ?_
  refine va_get (D := D) (ci := 3) (v := .int (nI 0)) (C := RX3) (T := TX3) (N := 18) hx hb hts hin_X3 hown hK hP 0 rfl rfl 10 (by decide) hf_PressedPlainsModel_77 (fun _ h9 => h9) rfl dX3_asks_8 ?_
  refine lv_if_le (tgt := 158) hx hb dX3_asks_11 (by decide) (fun _ => ?_) (fun c9 => absurd (nI_le (a := 0) (b := 0) (by omega) (by omega)) c9)
  refine lv_iload hx hb dX3_asks_158 (lv_at hl 0 rfl) ?_
  exact pq_iret hQ hx hb hr hlocks hK hS hP hD dX3_asks_160 (by omega) (by omega) (⟨by subst hRz; subst hB_1; rfl, T', by subst hRz; subst hB_1; rfl⟩)

set_option maxHeartbeats 4000000 in
set_option maxRecDepth 100000 in
theorem mX3_asks0 (l : Launch) (D : va_G) (cI : ClassId) (mo z1 z2 z3 z4 z5 z6 z7 z8 z9 : Nat) (col : Int32) (hs cs fi la : Nat → Int32) (B : BK) (td : Nat → Int32) (lf laid piled prs thr : Int32) (kf kt : Nat) (hsp : ∀ e, e < 128 → ¬ la e ≤ fi e → e < 64) (hch : ∀ e, 1 ≤ e → e < 64 → ¬ la e ≤ fi e → fi (2 * e) ≤ la (2 * e) ∧ fi (2 * e + 1) ≤ la (2 * e + 1)) (hrt : fi 1 ≤ la 1) : pq_M l yX3_asks wsX3_asks 3 66 0 0 D [(cI, .int)] pq_0 (mdW mo z1 z2 z3 z4 z5 z6 z7 z8 z9 cI col hs cs fi la B td lf laid piled prs thr) [.ref mo, .int (nI kf), .int (nI kt), .int 0] (fun v w1 => v = some (.int (mGrt fi la (nI kf) (nI kt) 7 (0, bBegin B) 1).1) ∧ (∃ td2, w1 = mdW mo z1 z2 z3 z4 z5 z6 z7 z8 z9 cI col hs cs fi la ((mGrt fi la (nI kf) (nI kt) 7 (0, bBegin B) 1).2) td2 0 laid piled prs thr)) := by
  refine pq_enter (cc := cX3_asks) (maxL := 7) (ret := (some .int)) (by decide) rfl (Nat.le_of_ble_eq_true rfl) ?_
  intro p ev s m args below meth cd A ls Q H locs hx hb hr hml hts hown hlocks hnm hK hP hD hS hA hE hl hQ
  have hl : lv_has ls 7 [(0, .ref mo), (1, .int (nI kf)), (2, .int (nI kt)), (3, .int 0)] := hl
  have hP : va_P D vwCl [(mo, .inr (3, [.int col, .ref z1, .ref z2, .ref z3, .ref z4, .ref z5, .ref z6, .ref z7, .ref z8, .ref z9, .int lf, .int B.2.2.2.2.1, .int B.2.2.2.2.2.1, .int B.2.2.2.2.2.2, .int laid, .int piled, .int prs, .int thr])), (z1, .inl (cI, 64, .inl hs)), (z2, .inl (cI, 64, .inl cs)), (z3, .inl (cI, 128, .inl fi)), (z4, .inl (cI, 128, .inl la)), (z5, .inl (cI, 128, .inl B.1)), (z6, .inl (cI, 128, .inl B.2.1)), (z7, .inl (cI, 128, .inl B.2.2.1)), (z8, .inl (cI, 128, .inl B.2.2.2.1)), (z9, .inl (cI, 64, .inl td))] H := hP
  have hD : va_D A [(mo, .inr (3, [.int col, .ref z1, .ref z2, .ref z3, .ref z4, .ref z5, .ref z6, .ref z7, .ref z8, .ref z9, .int lf, .int B.2.2.2.2.1, .int B.2.2.2.2.2.1, .int B.2.2.2.2.2.2, .int laid, .int piled, .int prs, .int thr])), (z1, .inl (cI, 64, .inl hs)), (z2, .inl (cI, 64, .inl cs)), (z3, .inl (cI, 128, .inl fi)), (z4, .inl (cI, 128, .inl la)), (z5, .inl (cI, 128, .inl B.1)), (z6, .inl (cI, 128, .inl B.2.1)), (z7, .inl (cI, 128, .inl B.2.2.1)), (z8, .inl (cI, 128, .inl B.2.2.2.1)), (z9, .inl (cI, 64, .inl td))] := hD
  have hin_X3 : ∀ w ∈ wsX30, w ∈ wsX3_asks := by decide +kernel
  have hf_PressedPlainsModel_77 := hts (.fieldLink RX3 77 "PressedPlainsModel" "left" "I") (by decide +kernel)
  have hf_PressedPlainsModel_34 := hts (.fieldLink RX3 34 "PressedPlainsModel" "todo" "[I") (by decide +kernel)
  have hf_PressedPlainsModel_16 := hts (.fieldLink RX3 16 "PressedPlainsModel" "first" "[I") (by decide +kernel)
  have hf_PressedPlainsModel_19 := hts (.fieldLink RX3 19 "PressedPlainsModel" "last" "[I") (by decide +kernel)
  have hf_PressedPlainsModel_22 := hts (.fieldLink RX3 22 "PressedPlainsModel" "greatest" "[I") (by decide +kernel)
  refine lv_aload_n hx hb dX3_asks_0 rfl (lv_at hl 0 rfl) ?_
  refine pq_callV (wr := []) (own := RX3) (nL := 7) (q0 := 0) (ci := 3) [0, 1, 2, 3, 4, 5, 6, 7, 8, 9] [] [] (mX3_begins l D cI mo z1 z2 z3 z4 z5 z6 z7 z8 z9 col hs cs fi la B td lf laid piled prs thr ) ⟨hx, hb, hml, hown, hts⟩ (cwV 0 hts gX3_asks_X3_begins rfl rfl rfl (by decide +kernel) ⟨by dsimp only [pq_R]; omega, by dsimp only [pq_R]; omega⟩) pq_bl0 (fun _ _ _ => trivial) hK hP hD hS hA rfl (by decide) rfl (by decide) (by decide) rfl rfl rfl rfl hl.1 rfl (Nat.le_of_ble_eq_true rfl) dX3_asks_1 ⟨by dsimp only [pq_R]; omega, by dsimp only [pq_R]; omega⟩ (fun v w1 H locs hq hP hD hS hz => ?_)
  obtain ⟨rfl, rfl⟩ := hq
  obtain ⟨B_1, hB_1⟩ : ∃ zz, zz = bBegin B := ⟨_, rfl⟩
  rw [← hB_1] at hP hD
  have hP : va_P D vwCl [(mo, .inr (3, [.int col, .ref z1, .ref z2, .ref z3, .ref z4, .ref z5, .ref z6, .ref z7, .ref z8, .ref z9, .int (nI (0 + 1)), .int B_1.2.2.2.2.1, .int B_1.2.2.2.2.2.1, .int B_1.2.2.2.2.2.2, .int laid, .int piled, .int prs, .int thr])), (z1, .inl (cI, 64, .inl hs)), (z2, .inl (cI, 64, .inl cs)), (z3, .inl (cI, 128, .inl fi)), (z4, .inl (cI, 128, .inl la)), (z5, .inl (cI, 128, .inl B_1.1)), (z6, .inl (cI, 128, .inl B_1.2.1)), (z7, .inl (cI, 128, .inl B_1.2.2.1)), (z8, .inl (cI, 128, .inl B_1.2.2.2.1)), (z9, .inl (cI, 64, .inl (upd td 0 2)))] H := hP
  have hD : va_D A [(mo, .inr (3, [.int col, .ref z1, .ref z2, .ref z3, .ref z4, .ref z5, .ref z6, .ref z7, .ref z8, .ref z9, .int (nI (0 + 1)), .int B_1.2.2.2.2.1, .int B_1.2.2.2.2.2.1, .int B_1.2.2.2.2.2.2, .int laid, .int piled, .int prs, .int thr])), (z1, .inl (cI, 64, .inl hs)), (z2, .inl (cI, 64, .inl cs)), (z3, .inl (cI, 128, .inl fi)), (z4, .inl (cI, 128, .inl la)), (z5, .inl (cI, 128, .inl B_1.1)), (z6, .inl (cI, 128, .inl B_1.2.1)), (z7, .inl (cI, 128, .inl B_1.2.2.1)), (z8, .inl (cI, 128, .inl B_1.2.2.2.1)), (z9, .inl (cI, 64, .inl (upd td 0 2)))] := hD
  refine W.eq (g2 := F0 m 4 ls []) rfl ?_
  refine lv_iconst (v := 0) hx hb dX3_asks_4 (by decide) ?_
  refine lv_istore (lv' := [(4, .int 0), (0, .ref mo), (1, .int (nI kf)), (2, .int (nI kt)), (3, .int 0)]) hx hb dX3_asks_5 hl (by decide) rfl (fun ls hl => ?_)
  have LS : ∀ (d e L : Nat) (Y : BK) (T : Nat → Int32) (t : Int32), 1 ≤ e → e < 128 → 128 ≤ e * 2 ^ d → L + 2 * d ≤ 14 → fi e ≤ la e → T L = nI (2 * e) → (∀ T' : Nat → Int32, (∀ j, j < L → T' j = T j) → ∀ (H : Heap) (locs : List Loc) (ls : Array Slot), va_P D vwCl [(mo, .inr (3, [.int col, .ref z1, .ref z2, .ref z3, .ref z4, .ref z5, .ref z6, .ref z7, .ref z8, .ref z9, .int (nI L), .int ((mGrt fi la (nI kf) (nI kt) d (t, Y) e).2.2.2.2.2.1), .int ((mGrt fi la (nI kf) (nI kt) d (t, Y) e).2.2.2.2.2.2.1), .int ((mGrt fi la (nI kf) (nI kt) d (t, Y) e).2.2.2.2.2.2.2), .int laid, .int piled, .int prs, .int thr])), (z1, .inl (cI, 64, .inl hs)), (z2, .inl (cI, 64, .inl cs)), (z3, .inl (cI, 128, .inl fi)), (z4, .inl (cI, 128, .inl la)), (z5, .inl (cI, 128, .inl ((mGrt fi la (nI kf) (nI kt) d (t, Y) e).2.1))), (z6, .inl (cI, 128, .inl ((mGrt fi la (nI kf) (nI kt) d (t, Y) e).2.2.1))), (z7, .inl (cI, 128, .inl ((mGrt fi la (nI kf) (nI kt) d (t, Y) e).2.2.2.1))), (z8, .inl (cI, 128, .inl ((mGrt fi la (nI kf) (nI kt) d (t, Y) e).2.2.2.2.1))), (z9, .inl (cI, 64, .inl T'))] H → va_D A [(mo, .inr (3, [.int col, .ref z1, .ref z2, .ref z3, .ref z4, .ref z5, .ref z6, .ref z7, .ref z8, .ref z9, .int (nI L), .int ((mGrt fi la (nI kf) (nI kt) d (t, Y) e).2.2.2.2.2.1), .int ((mGrt fi la (nI kf) (nI kt) d (t, Y) e).2.2.2.2.2.2.1), .int ((mGrt fi la (nI kf) (nI kt) d (t, Y) e).2.2.2.2.2.2.2), .int laid, .int piled, .int prs, .int thr])), (z1, .inl (cI, 64, .inl hs)), (z2, .inl (cI, 64, .inl cs)), (z3, .inl (cI, 128, .inl fi)), (z4, .inl (cI, 128, .inl la)), (z5, .inl (cI, 128, .inl ((mGrt fi la (nI kf) (nI kt) d (t, Y) e).2.1))), (z6, .inl (cI, 128, .inl ((mGrt fi la (nI kf) (nI kt) d (t, Y) e).2.2.1))), (z7, .inl (cI, 128, .inl ((mGrt fi la (nI kf) (nI kt) d (t, Y) e).2.2.2.1))), (z8, .inl (cI, 128, .inl ((mGrt fi la (nI kf) (nI kt) d (t, Y) e).2.2.2.2.1))), (z9, .inl (cI, 64, .inl T'))] → va_S A s.heap H locs → lv_has ls 7 [(4, .int ((mGrt fi la (nI kf) (nI kt) d (t, Y) e).1)), (0, .ref mo), (1, .int (nI kf)), (2, .int (nI kt)), (3, .int 0)] → W p l ev (pq_R 3 66 0 0) s m args below meth cd H locs 0 0 Q (F0 m 7 ls [])) → ∀ (H : Heap) (locs : List Loc) (ls : Array Slot), va_P D vwCl [(mo, .inr (3, [.int col, .ref z1, .ref z2, .ref z3, .ref z4, .ref z5, .ref z6, .ref z7, .ref z8, .ref z9, .int (nI (L + 1)), .int Y.2.2.2.2.1, .int Y.2.2.2.2.2.1, .int Y.2.2.2.2.2.2, .int laid, .int piled, .int prs, .int thr])), (z1, .inl (cI, 64, .inl hs)), (z2, .inl (cI, 64, .inl cs)), (z3, .inl (cI, 128, .inl fi)), (z4, .inl (cI, 128, .inl la)), (z5, .inl (cI, 128, .inl Y.1)), (z6, .inl (cI, 128, .inl Y.2.1)), (z7, .inl (cI, 128, .inl Y.2.2.1)), (z8, .inl (cI, 128, .inl Y.2.2.2.1)), (z9, .inl (cI, 64, .inl T))] H → va_D A [(mo, .inr (3, [.int col, .ref z1, .ref z2, .ref z3, .ref z4, .ref z5, .ref z6, .ref z7, .ref z8, .ref z9, .int (nI (L + 1)), .int Y.2.2.2.2.1, .int Y.2.2.2.2.2.1, .int Y.2.2.2.2.2.2, .int laid, .int piled, .int prs, .int thr])), (z1, .inl (cI, 64, .inl hs)), (z2, .inl (cI, 64, .inl cs)), (z3, .inl (cI, 128, .inl fi)), (z4, .inl (cI, 128, .inl la)), (z5, .inl (cI, 128, .inl Y.1)), (z6, .inl (cI, 128, .inl Y.2.1)), (z7, .inl (cI, 128, .inl Y.2.2.1)), (z8, .inl (cI, 128, .inl Y.2.2.2.1)), (z9, .inl (cI, 64, .inl T))] → va_S A s.heap H locs → lv_has ls 7 [(4, .int t), (0, .ref mo), (1, .int (nI kf)), (2, .int (nI kt)), (3, .int 0)] → W p l ev (pq_R 3 66 0 0) s m args below meth cd H locs 0 0 Q (F0 m 7 ls []) := by
    intro d
    induction d with
    | zero =>
      intro e L Y T t h1 h2 h3
      simp only [Nat.pow_zero, Nat.mul_one] at h3
      omega
    | succ d ih =>
      intro e L Y T t he1 he hd hL hex hT K H locs ls hP hD hS hl
      refine lv_aload_n hx hb dX3_asks_7 rfl (lv_at hl 1 rfl) ?_
      refine va_get (D := D) (ci := 3) (v := .int (nI (L + 1))) (C := RX3) (T := TX3) (N := 18) hx hb hts hin_X3 hown hK hP 0 rfl rfl 10 (by decide) hf_PressedPlainsModel_77 (fun _ h9 => h9) rfl dX3_asks_8 ?_
      refine lv_if_le (tgt := 158) hx hb dX3_asks_11 (by decide) (fun c9 => absurd c9 (nI_ge (a := 0) (b := (L + 1)) (by omega) (by omega))) (fun _ => ?_)
      refine lv_aload_n hx hb dX3_asks_14 rfl (lv_at hl 1 rfl) ?_
      refine lv_dup hx hb dX3_asks_15 rfl ?_
      refine va_get (D := D) (ci := 3) (v := .int (nI (L + 1))) (C := RX3) (T := TX3) (N := 18) hx hb hts hin_X3 hown hK hP 0 rfl rfl 10 (by decide) hf_PressedPlainsModel_77 (fun _ h9 => h9) rfl dX3_asks_16 ?_
      refine lv_iconst (v := 1) hx hb dX3_asks_19 (by decide) ?_
      refine lv_isub hx hb dX3_asks_20 ?_
      refine pq_top (nI L) (nI_pred _) ?_
      refine va_put (D := D) (ci := 3) (v := .int (nI L)) (ty := .int) (C := RX3) (T := TX3) (N := 18) hx hb hts hin_X3 tyX3 tyX3_ok nmX3 hown hK hP hD hS 0 rfl rfl 10 (by decide) hf_PressedPlainsModel_77 (fun _ h9 => h9) rfl (by decide +kernel) rfl rfl (Nat.le_of_ble_eq_true rfl) dX3_asks_21 (fun H locs hP hD hS => ?_)
      have hP : va_P D vwCl [(mo, .inr (3, [.int col, .ref z1, .ref z2, .ref z3, .ref z4, .ref z5, .ref z6, .ref z7, .ref z8, .ref z9, .int (nI L), .int Y.2.2.2.2.1, .int Y.2.2.2.2.2.1, .int Y.2.2.2.2.2.2, .int laid, .int piled, .int prs, .int thr])), (z1, .inl (cI, 64, .inl hs)), (z2, .inl (cI, 64, .inl cs)), (z3, .inl (cI, 128, .inl fi)), (z4, .inl (cI, 128, .inl la)), (z5, .inl (cI, 128, .inl Y.1)), (z6, .inl (cI, 128, .inl Y.2.1)), (z7, .inl (cI, 128, .inl Y.2.2.1)), (z8, .inl (cI, 128, .inl Y.2.2.2.1)), (z9, .inl (cI, 64, .inl T))] H := hP
      have hD : va_D A [(mo, .inr (3, [.int col, .ref z1, .ref z2, .ref z3, .ref z4, .ref z5, .ref z6, .ref z7, .ref z8, .ref z9, .int (nI L), .int Y.2.2.2.2.1, .int Y.2.2.2.2.2.1, .int Y.2.2.2.2.2.2, .int laid, .int piled, .int prs, .int thr])), (z1, .inl (cI, 64, .inl hs)), (z2, .inl (cI, 64, .inl cs)), (z3, .inl (cI, 128, .inl fi)), (z4, .inl (cI, 128, .inl la)), (z5, .inl (cI, 128, .inl Y.1)), (z6, .inl (cI, 128, .inl Y.2.1)), (z7, .inl (cI, 128, .inl Y.2.2.1)), (z8, .inl (cI, 128, .inl Y.2.2.2.1)), (z9, .inl (cI, 64, .inl T))] := hD
      refine lv_aload_n hx hb dX3_asks_24 rfl (lv_at hl 1 rfl) ?_
      refine va_get (D := D) (ci := 3) (v := .ref z9) (C := RX3) (T := TX3) (N := 18) hx hb hts hin_X3 hown hK hP 0 rfl rfl 9 (by decide) hf_PressedPlainsModel_34 (fun _ h9 => h9) rfl dX3_asks_25 ?_
      refine lv_aload_n hx hb dX3_asks_28 rfl (lv_at hl 1 rfl) ?_
      refine va_get (D := D) (ci := 3) (v := .int (nI L)) (C := RX3) (T := TX3) (N := 18) hx hb hts hin_X3 hown hK hP 0 rfl rfl 10 (by decide) hf_PressedPlainsModel_77 (fun _ h9 => h9) rfl dX3_asks_29 ?_
      refine pq_iald hx hb hK hP 9 0 rfl rfl L (by omega) (by decide) dX3_asks_32 ?_
      refine pq_top (nI (2 * e)) hT ?_
      refine lv_iconst (v := 2) hx hb dX3_asks_33 (by decide) ?_
      refine lv_idiv hx hb dX3_asks_34 (by decide) ?_
      refine pq_top (nI e) (pq_half (by omega)) ?_
      refine lv_istore (lv' := [(5, .int (nI e)), (4, .int t), (0, .ref mo), (1, .int (nI kf)), (2, .int (nI kt)), (3, .int 0)]) hx hb dX3_asks_35 hl (by decide) rfl (fun ls hl => ?_)
      refine lv_aload_n hx hb dX3_asks_37 rfl (lv_at hl 2 rfl) ?_
      refine pq_callV (wr := []) (own := RX3) (nL := 7) (q0 := 0) (ci := 3) [0, 1, 2, 3, 4, 5, 6, 7, 8, 9] [] [] (mX3_visited l D cI mo z1 z2 z3 z4 z5 z6 z7 z8 z9 col hs cs fi la Y T (nI L) laid piled prs thr ) ⟨hx, hb, hml, hown, hts⟩ (cwV 0 hts gX3_asks_X3_visited rfl rfl rfl (by decide +kernel) ⟨by dsimp only [pq_R]; omega, by dsimp only [pq_R]; omega⟩) pq_bl0 (fun _ _ _ => trivial) hK hP hD hS hA rfl (by decide) rfl (by decide) (by decide) rfl rfl rfl rfl hl.1 rfl (Nat.le_of_ble_eq_true rfl) dX3_asks_38 ⟨by dsimp only [pq_R]; omega, by dsimp only [pq_R]; omega⟩ (fun v w1 H locs hq hP hD hS hz => ?_)
      obtain ⟨rfl, rfl⟩ := hq
      obtain ⟨B_2, hB_2⟩ : ∃ zz, zz = bVisit Y := ⟨_, rfl⟩
      rw [← hB_2] at hP hD
      have hP : va_P D vwCl [(mo, .inr (3, [.int col, .ref z1, .ref z2, .ref z3, .ref z4, .ref z5, .ref z6, .ref z7, .ref z8, .ref z9, .int (nI L), .int B_2.2.2.2.2.1, .int B_2.2.2.2.2.2.1, .int B_2.2.2.2.2.2.2, .int laid, .int piled, .int prs, .int thr])), (z1, .inl (cI, 64, .inl hs)), (z2, .inl (cI, 64, .inl cs)), (z3, .inl (cI, 128, .inl fi)), (z4, .inl (cI, 128, .inl la)), (z5, .inl (cI, 128, .inl B_2.1)), (z6, .inl (cI, 128, .inl B_2.2.1)), (z7, .inl (cI, 128, .inl B_2.2.2.1)), (z8, .inl (cI, 128, .inl B_2.2.2.2.1)), (z9, .inl (cI, 64, .inl T))] H := hP
      have hD : va_D A [(mo, .inr (3, [.int col, .ref z1, .ref z2, .ref z3, .ref z4, .ref z5, .ref z6, .ref z7, .ref z8, .ref z9, .int (nI L), .int B_2.2.2.2.2.1, .int B_2.2.2.2.2.2.1, .int B_2.2.2.2.2.2.2, .int laid, .int piled, .int prs, .int thr])), (z1, .inl (cI, 64, .inl hs)), (z2, .inl (cI, 64, .inl cs)), (z3, .inl (cI, 128, .inl fi)), (z4, .inl (cI, 128, .inl la)), (z5, .inl (cI, 128, .inl B_2.1)), (z6, .inl (cI, 128, .inl B_2.2.1)), (z7, .inl (cI, 128, .inl B_2.2.2.1)), (z8, .inl (cI, 128, .inl B_2.2.2.2.1)), (z9, .inl (cI, 64, .inl T))] := hD
      refine W.eq (g2 := F0 m 41 ls []) rfl ?_
      have J3 : ∀ (v : Int32), v = (if mNo fi la e (nI kf) (nI kt) then 1 else 0) → ∀ (H : Heap) (locs : List Loc) (ls : Array Slot), va_P D vwCl [(mo, .inr (3, [.int col, .ref z1, .ref z2, .ref z3, .ref z4, .ref z5, .ref z6, .ref z7, .ref z8, .ref z9, .int (nI L), .int B_2.2.2.2.2.1, .int B_2.2.2.2.2.2.1, .int B_2.2.2.2.2.2.2, .int laid, .int piled, .int prs, .int thr])), (z1, .inl (cI, 64, .inl hs)), (z2, .inl (cI, 64, .inl cs)), (z3, .inl (cI, 128, .inl fi)), (z4, .inl (cI, 128, .inl la)), (z5, .inl (cI, 128, .inl B_2.1)), (z6, .inl (cI, 128, .inl B_2.2.1)), (z7, .inl (cI, 128, .inl B_2.2.2.1)), (z8, .inl (cI, 128, .inl B_2.2.2.2.1)), (z9, .inl (cI, 64, .inl T))] H → va_D A [(mo, .inr (3, [.int col, .ref z1, .ref z2, .ref z3, .ref z4, .ref z5, .ref z6, .ref z7, .ref z8, .ref z9, .int (nI L), .int B_2.2.2.2.2.1, .int B_2.2.2.2.2.2.1, .int B_2.2.2.2.2.2.2, .int laid, .int piled, .int prs, .int thr])), (z1, .inl (cI, 64, .inl hs)), (z2, .inl (cI, 64, .inl cs)), (z3, .inl (cI, 128, .inl fi)), (z4, .inl (cI, 128, .inl la)), (z5, .inl (cI, 128, .inl B_2.1)), (z6, .inl (cI, 128, .inl B_2.2.1)), (z7, .inl (cI, 128, .inl B_2.2.2.1)), (z8, .inl (cI, 128, .inl B_2.2.2.2.1)), (z9, .inl (cI, 64, .inl T))] → va_S A s.heap H locs → lv_has ls 7 [(5, .int (nI e)), (4, .int t), (0, .ref mo), (1, .int (nI kf)), (2, .int (nI kt)), (3, .int 0)] → W p l ev (pq_R 3 66 0 0) s m args below meth cd H locs 0 0 Q (F0 m 68 ls [.int v]) := by
        intro v hv H locs ls hP hD hS hl
        by_cases j_3 : mNo fi la e (nI kf) (nI kt)
        · rw [if_pos j_3] at hv
          subst hv
          refine lv_istore (lv' := [(6, .int 1), (5, .int (nI e)), (4, .int t), (0, .ref mo), (1, .int (nI kf)), (2, .int (nI kt)), (3, .int 0)]) hx hb dX3_asks_68 hl (by decide) rfl (fun ls hl => ?_)
          refine lv_iload hx hb dX3_asks_70 (lv_at hl 0 rfl) ?_
          refine lv_if_ne (tgt := 143) hx hb dX3_asks_72 (by decide) (fun _ => ?_) (fun c9 => absurd c9 (by decide))
          refine lv_iload hx hb dX3_asks_143 (lv_at hl 0 rfl) ?_
          refine lv_if_ne (tgt := 155) hx hb dX3_asks_145 (by decide) (fun _ => ?_) (fun c9 => absurd c9 (by decide))
          refine lv_goto (tgt := 7) hx hb dX3_asks_155 (by decide) ?_
          subst hB_2
          have hm : mGrt fi la (nI kf) (nI kt) (d + 1) (t, Y) e = (t, bVisit Y) := by rw [mGrt, if_pos j_3]
          rw [hm] at K
          exact K T (fun _ _ => rfl) H locs ls hP hD hS (lv_sub hl [2, 3, 4, 5, 6] rfl)
        · rw [if_neg j_3] at hv
          subst hv
          refine lv_istore (lv' := [(6, .int 0), (5, .int (nI e)), (4, .int t), (0, .ref mo), (1, .int (nI kf)), (2, .int (nI kt)), (3, .int 0)]) hx hb dX3_asks_68 hl (by decide) rfl (fun ls hl => ?_)
          refine lv_iload hx hb dX3_asks_70 (lv_at hl 0 rfl) ?_
          refine lv_if_ne (tgt := 143) hx hb dX3_asks_72 (by decide) (fun c9 => absurd c9 (by decide)) (fun _ => ?_)
          refine lv_aload_n hx hb dX3_asks_75 rfl (lv_at hl 3 rfl) ?_
          refine va_get (D := D) (ci := 3) (v := .ref z3) (C := RX3) (T := TX3) (N := 18) hx hb hts hin_X3 hown hK hP 0 rfl rfl 3 (by decide) hf_PressedPlainsModel_16 (fun _ h9 => h9) rfl dX3_asks_76 ?_
          refine lv_iload hx hb dX3_asks_79 (lv_at hl 1 rfl) ?_
          refine pq_iald hx hb hK hP 3 0 rfl rfl e (by omega) (by decide) dX3_asks_81 ?_
          refine lv_iload_n hx hb dX3_asks_82 rfl (lv_at hl 4 rfl) ?_
          refine lv_icmp_lt (tgt := 143) hx hb dX3_asks_83 (by decide) (fun c_4 => ?_) (fun c_4 => ?_)
          · refine lv_iload hx hb dX3_asks_143 (lv_at hl 0 rfl) ?_
            refine lv_if_ne (tgt := 155) hx hb dX3_asks_145 (by decide) (fun c9 => absurd c9 (by decide)) (fun _ => ?_)
            have hnw : ¬ mAll fi la e (nI kf) (nI kt) := fun h => h.1 c_4
            have hne : ¬ fi e = la e := fun h => j_3 (Or.inr (h ▸ c_4))
            have hnl : ¬ la e ≤ fi e := pq_lt_of hex hne
            have he64 : e < 64 := hsp e he hnl
            have hcc := hch e he1 he64 hnl
            refine lv_aload_n hx hb dX3_asks_148 rfl (lv_at hl 3 rfl) ?_
            refine lv_iload hx hb dX3_asks_149 (lv_at hl 1 rfl) ?_
            refine lv_iconst (v := 0) hx hb dX3_asks_151 (by decide) ?_
            refine pq_callV (wr := []) (own := RX3) (nL := 7) (q0 := 0) (ci := 3) [0, 1, 2, 3, 4, 5, 6, 7, 8, 9] [] [.int (nI e), .int 0] (mX3_goesBelow0 l D cI mo z1 z2 z3 z4 z5 z6 z7 z8 z9 col hs cs fi la B_2 T (nI L) laid piled prs thr e L (by omega) (by omega)) ⟨hx, hb, hml, hown, hts⟩ (cwV 2 hts gX3_asks_X3_goesBelow rfl rfl rfl (by decide +kernel) ⟨by dsimp only [pq_R]; omega, by dsimp only [pq_R]; omega⟩) pq_bl0 (fun _ _ _ => trivial) hK hP hD hS hA rfl (by decide) rfl (by decide) (by decide) rfl rfl rfl rfl hl.1 rfl (Nat.le_of_ble_eq_true rfl) dX3_asks_152 ⟨by dsimp only [pq_R]; omega, by dsimp only [pq_R]; omega⟩ (fun v w1 H locs hq hP hD hS hz => ?_)
            obtain ⟨rfl, rfl⟩ := hq
            obtain ⟨B_5, hB_5⟩ : ∃ zz, zz = mCatch2 B_2 e := ⟨_, rfl⟩
            rw [← hB_5] at hP hD
            have hP : va_P D vwCl [(mo, .inr (3, [.int col, .ref z1, .ref z2, .ref z3, .ref z4, .ref z5, .ref z6, .ref z7, .ref z8, .ref z9, .int (nI (L + 2)), .int B_5.2.2.2.2.1, .int B_5.2.2.2.2.2.1, .int B_5.2.2.2.2.2.2, .int laid, .int piled, .int prs, .int thr])), (z1, .inl (cI, 64, .inl hs)), (z2, .inl (cI, 64, .inl cs)), (z3, .inl (cI, 128, .inl fi)), (z4, .inl (cI, 128, .inl la)), (z5, .inl (cI, 128, .inl B_5.1)), (z6, .inl (cI, 128, .inl B_5.2.1)), (z7, .inl (cI, 128, .inl B_5.2.2.1)), (z8, .inl (cI, 128, .inl B_5.2.2.2.1)), (z9, .inl (cI, 64, .inl (upd (upd T L (nI (2 * (2 * e + 1)))) (L + 1) (nI (2 * (2 * e))))))] H := hP
            have hD : va_D A [(mo, .inr (3, [.int col, .ref z1, .ref z2, .ref z3, .ref z4, .ref z5, .ref z6, .ref z7, .ref z8, .ref z9, .int (nI (L + 2)), .int B_5.2.2.2.2.1, .int B_5.2.2.2.2.2.1, .int B_5.2.2.2.2.2.2, .int laid, .int piled, .int prs, .int thr])), (z1, .inl (cI, 64, .inl hs)), (z2, .inl (cI, 64, .inl cs)), (z3, .inl (cI, 128, .inl fi)), (z4, .inl (cI, 128, .inl la)), (z5, .inl (cI, 128, .inl B_5.1)), (z6, .inl (cI, 128, .inl B_5.2.1)), (z7, .inl (cI, 128, .inl B_5.2.2.1)), (z8, .inl (cI, 128, .inl B_5.2.2.2.1)), (z9, .inl (cI, 64, .inl (upd (upd T L (nI (2 * (2 * e + 1)))) (L + 1) (nI (2 * (2 * e))))))] := hD
            refine W.eq (g2 := F0 m 155 ls []) rfl ?_
            refine lv_goto (tgt := 7) hx hb dX3_asks_155 (by decide) ?_
            subst hB_5
            subst hB_2
            have hm : mGrt fi la (nI kf) (nI kt) (d + 1) (t, Y) e = mGrt fi la (nI kf) (nI kt) d (mGrt fi la (nI kf) (nI kt) d (t, (mCatch2 (bVisit Y) e)) (2 * e)) (2 * e + 1) := by rw [mGrt, if_neg j_3, if_neg hnw]
            rw [hm] at K
            refine ih (2 * e) (L + 1) (mCatch2 (bVisit Y) e) (upd (upd T L (nI (2 * (2 * e + 1)))) (L + 1) (nI (2 * (2 * e)))) t (by omega) (by omega) (pw_1 hd) (by omega) hcc.1 pk_us (fun T1 hT1 => ?_) H locs ls hP hD hS (lv_sub hl [2, 3, 4, 5, 6] rfl)
            refine ih (2 * e + 1) L (mGrt fi la (nI kf) (nI kt) d (t, (mCatch2 (bVisit Y) e)) (2 * e)).2 T1 (mGrt fi la (nI kf) (nI kt) d (t, (mCatch2 (bVisit Y) e)) (2 * e)).1 (by omega) (by omega) (pw_2 hd) (by omega) hcc.2 ((hT1 L (by omega)).trans ((pk_un (by omega)).trans  pk_us)) (fun T2 hT2 => ?_)
            exact K T2 (fun j hj => (hT2 j hj).trans ((hT1 j (by omega)).trans ((pk_un (by omega)).trans (pk_un (by omega)))))
          · refine lv_aload_n hx hb dX3_asks_86 rfl (lv_at hl 3 rfl) ?_
            refine va_get (D := D) (ci := 3) (v := .ref z4) (C := RX3) (T := TX3) (N := 18) hx hb hts hin_X3 hown hK hP 0 rfl rfl 4 (by decide) hf_PressedPlainsModel_19 (fun _ h9 => h9) rfl dX3_asks_87 ?_
            refine lv_iload hx hb dX3_asks_90 (lv_at hl 1 rfl) ?_
            refine pq_iald hx hb hK hP 4 0 rfl rfl e (by omega) (by decide) dX3_asks_92 ?_
            refine lv_iload_n hx hb dX3_asks_93 rfl (lv_at hl 5 rfl) ?_
            refine lv_icmp_gt (tgt := 143) hx hb dX3_asks_94 (by decide) (fun c_6 => ?_) (fun c_6 => ?_)
            · refine lv_iload hx hb dX3_asks_143 (lv_at hl 0 rfl) ?_
              refine lv_if_ne (tgt := 155) hx hb dX3_asks_145 (by decide) (fun c9 => absurd c9 (by decide)) (fun _ => ?_)
              have hnw : ¬ mAll fi la e (nI kf) (nI kt) := fun h => h.2 c_6
              have hne : ¬ fi e = la e := fun h => j_3 (Or.inl (h.symm ▸ c_6))
              have hnl : ¬ la e ≤ fi e := pq_lt_of hex hne
              have he64 : e < 64 := hsp e he hnl
              have hcc := hch e he1 he64 hnl
              refine lv_aload_n hx hb dX3_asks_148 rfl (lv_at hl 3 rfl) ?_
              refine lv_iload hx hb dX3_asks_149 (lv_at hl 1 rfl) ?_
              refine lv_iconst (v := 0) hx hb dX3_asks_151 (by decide) ?_
              refine pq_callV (wr := []) (own := RX3) (nL := 7) (q0 := 0) (ci := 3) [0, 1, 2, 3, 4, 5, 6, 7, 8, 9] [] [.int (nI e), .int 0] (mX3_goesBelow0 l D cI mo z1 z2 z3 z4 z5 z6 z7 z8 z9 col hs cs fi la B_2 T (nI L) laid piled prs thr e L (by omega) (by omega)) ⟨hx, hb, hml, hown, hts⟩ (cwV 2 hts gX3_asks_X3_goesBelow rfl rfl rfl (by decide +kernel) ⟨by dsimp only [pq_R]; omega, by dsimp only [pq_R]; omega⟩) pq_bl0 (fun _ _ _ => trivial) hK hP hD hS hA rfl (by decide) rfl (by decide) (by decide) rfl rfl rfl rfl hl.1 rfl (Nat.le_of_ble_eq_true rfl) dX3_asks_152 ⟨by dsimp only [pq_R]; omega, by dsimp only [pq_R]; omega⟩ (fun v w1 H locs hq hP hD hS hz => ?_)
              obtain ⟨rfl, rfl⟩ := hq
              obtain ⟨B_7, hB_7⟩ : ∃ zz, zz = mCatch2 B_2 e := ⟨_, rfl⟩
              rw [← hB_7] at hP hD
              have hP : va_P D vwCl [(mo, .inr (3, [.int col, .ref z1, .ref z2, .ref z3, .ref z4, .ref z5, .ref z6, .ref z7, .ref z8, .ref z9, .int (nI (L + 2)), .int B_7.2.2.2.2.1, .int B_7.2.2.2.2.2.1, .int B_7.2.2.2.2.2.2, .int laid, .int piled, .int prs, .int thr])), (z1, .inl (cI, 64, .inl hs)), (z2, .inl (cI, 64, .inl cs)), (z3, .inl (cI, 128, .inl fi)), (z4, .inl (cI, 128, .inl la)), (z5, .inl (cI, 128, .inl B_7.1)), (z6, .inl (cI, 128, .inl B_7.2.1)), (z7, .inl (cI, 128, .inl B_7.2.2.1)), (z8, .inl (cI, 128, .inl B_7.2.2.2.1)), (z9, .inl (cI, 64, .inl (upd (upd T L (nI (2 * (2 * e + 1)))) (L + 1) (nI (2 * (2 * e))))))] H := hP
              have hD : va_D A [(mo, .inr (3, [.int col, .ref z1, .ref z2, .ref z3, .ref z4, .ref z5, .ref z6, .ref z7, .ref z8, .ref z9, .int (nI (L + 2)), .int B_7.2.2.2.2.1, .int B_7.2.2.2.2.2.1, .int B_7.2.2.2.2.2.2, .int laid, .int piled, .int prs, .int thr])), (z1, .inl (cI, 64, .inl hs)), (z2, .inl (cI, 64, .inl cs)), (z3, .inl (cI, 128, .inl fi)), (z4, .inl (cI, 128, .inl la)), (z5, .inl (cI, 128, .inl B_7.1)), (z6, .inl (cI, 128, .inl B_7.2.1)), (z7, .inl (cI, 128, .inl B_7.2.2.1)), (z8, .inl (cI, 128, .inl B_7.2.2.2.1)), (z9, .inl (cI, 64, .inl (upd (upd T L (nI (2 * (2 * e + 1)))) (L + 1) (nI (2 * (2 * e))))))] := hD
              refine W.eq (g2 := F0 m 155 ls []) rfl ?_
              refine lv_goto (tgt := 7) hx hb dX3_asks_155 (by decide) ?_
              subst hB_7
              subst hB_2
              have hm : mGrt fi la (nI kf) (nI kt) (d + 1) (t, Y) e = mGrt fi la (nI kf) (nI kt) d (mGrt fi la (nI kf) (nI kt) d (t, (mCatch2 (bVisit Y) e)) (2 * e)) (2 * e + 1) := by rw [mGrt, if_neg j_3, if_neg hnw]
              rw [hm] at K
              refine ih (2 * e) (L + 1) (mCatch2 (bVisit Y) e) (upd (upd T L (nI (2 * (2 * e + 1)))) (L + 1) (nI (2 * (2 * e)))) t (by omega) (by omega) (pw_1 hd) (by omega) hcc.1 pk_us (fun T1 hT1 => ?_) H locs ls hP hD hS (lv_sub hl [2, 3, 4, 5, 6] rfl)
              refine ih (2 * e + 1) L (mGrt fi la (nI kf) (nI kt) d (t, (mCatch2 (bVisit Y) e)) (2 * e)).2 T1 (mGrt fi la (nI kf) (nI kt) d (t, (mCatch2 (bVisit Y) e)) (2 * e)).1 (by omega) (by omega) (pw_2 hd) (by omega) hcc.2 ((hT1 L (by omega)).trans ((pk_un (by omega)).trans  pk_us)) (fun T2 hT2 => ?_)
              exact K T2 (fun j hj => (hT2 j hj).trans ((hT1 j (by omega)).trans ((pk_un (by omega)).trans (pk_un (by omega)))))
            · refine lv_iload_n hx hb dX3_asks_97 rfl (lv_at hl 6 rfl) ?_
              refine lv_if_eq (tgt := 114) hx hb dX3_asks_98 (by decide) (fun _ => ?_) (fun c9 => absurd c9 (by decide))
              have J8 : ∀ (H : Heap) (locs : List Loc) (ls : Array Slot), va_P D vwCl [(mo, .inr (3, [.int col, .ref z1, .ref z2, .ref z3, .ref z4, .ref z5, .ref z6, .ref z7, .ref z8, .ref z9, .int (nI L), .int B_2.2.2.2.2.1, .int B_2.2.2.2.2.2.1, .int B_2.2.2.2.2.2.2, .int laid, .int piled, .int prs, .int thr])), (z1, .inl (cI, 64, .inl hs)), (z2, .inl (cI, 64, .inl cs)), (z3, .inl (cI, 128, .inl fi)), (z4, .inl (cI, 128, .inl la)), (z5, .inl (cI, 128, .inl B_2.1)), (z6, .inl (cI, 128, .inl B_2.2.1)), (z7, .inl (cI, 128, .inl B_2.2.2.1)), (z8, .inl (cI, 128, .inl B_2.2.2.2.1)), (z9, .inl (cI, 64, .inl T))] H → va_D A [(mo, .inr (3, [.int col, .ref z1, .ref z2, .ref z3, .ref z4, .ref z5, .ref z6, .ref z7, .ref z8, .ref z9, .int (nI L), .int B_2.2.2.2.2.1, .int B_2.2.2.2.2.2.1, .int B_2.2.2.2.2.2.2, .int laid, .int piled, .int prs, .int thr])), (z1, .inl (cI, 64, .inl hs)), (z2, .inl (cI, 64, .inl cs)), (z3, .inl (cI, 128, .inl fi)), (z4, .inl (cI, 128, .inl la)), (z5, .inl (cI, 128, .inl B_2.1)), (z6, .inl (cI, 128, .inl B_2.2.1)), (z7, .inl (cI, 128, .inl B_2.2.2.1)), (z8, .inl (cI, 128, .inl B_2.2.2.2.1)), (z9, .inl (cI, 64, .inl T))] → va_S A s.heap H locs → lv_has ls 7 [(6, .int 0), (5, .int (nI e)), (4, .int t), (0, .ref mo), (1, .int (nI kf)), (2, .int (nI kt)), (3, .int 0)] → W p l ev (pq_R 3 66 0 0) s m args below meth cd H locs 0 0 Q (F0 m 138 ls [.int (if B_2.1 e ≤ t then t else B_2.1 e)]) := by
                intro H locs ls hP hD hS hl
                refine lv_istore (lv' := [(4, .int (if B_2.1 e ≤ t then t else B_2.1 e)), (6, .int 0), (5, .int (nI e)), (0, .ref mo), (1, .int (nI kf)), (2, .int (nI kt)), (3, .int 0)]) hx hb dX3_asks_138 hl (by decide) rfl (fun ls hl => ?_)
                refine lv_goto (tgt := 155) hx hb dX3_asks_140 (by decide) ?_
                refine lv_goto (tgt := 7) hx hb dX3_asks_155 (by decide) ?_
                subst hB_2
                have hm : mGrt fi la (nI kf) (nI kt) (d + 1) (t, Y) e = (if (bVisit Y).1 e ≤ t then t else (bVisit Y).1 e, bVisit Y) := by rw [mGrt, if_neg j_3, if_pos ⟨c_4, c_6⟩]
                rw [hm] at K
                exact K T (fun _ _ => rfl) H locs ls hP hD hS (lv_sub hl [0, 3, 4, 5, 6] rfl)
              refine lv_aload_n hx hb dX3_asks_114 rfl (lv_at hl 3 rfl) ?_
              refine va_get (D := D) (ci := 3) (v := .ref z5) (C := RX3) (T := TX3) (N := 18) hx hb hts hin_X3 hown hK hP 0 rfl rfl 5 (by decide) hf_PressedPlainsModel_22 (fun _ h9 => h9) rfl dX3_asks_115 ?_
              refine lv_iload hx hb dX3_asks_118 (lv_at hl 1 rfl) ?_
              refine pq_iald hx hb hK hP 5 0 rfl rfl e (by omega) (by decide) dX3_asks_120 ?_
              refine lv_iload hx hb dX3_asks_121 (lv_at hl 2 rfl) ?_
              refine lv_icmp_le (tgt := 136) hx hb dX3_asks_123 (by decide) (fun c_9 => ?_) (fun c_9 => ?_)
              · refine lv_iload hx hb dX3_asks_136 (lv_at hl 2 rfl) ?_
                refine pq_top (if B_2.1 e ≤ t then t else B_2.1 e) ((if_pos c_9).symm) ?_
                exact J8 H locs ls hP hD hS hl
              · refine lv_aload_n hx hb dX3_asks_126 rfl (lv_at hl 3 rfl) ?_
                refine va_get (D := D) (ci := 3) (v := .ref z5) (C := RX3) (T := TX3) (N := 18) hx hb hts hin_X3 hown hK hP 0 rfl rfl 5 (by decide) hf_PressedPlainsModel_22 (fun _ h9 => h9) rfl dX3_asks_127 ?_
                refine lv_iload hx hb dX3_asks_130 (lv_at hl 1 rfl) ?_
                refine pq_iald hx hb hK hP 5 0 rfl rfl e (by omega) (by decide) dX3_asks_132 ?_
                refine lv_goto (tgt := 138) hx hb dX3_asks_133 (by decide) ?_
                refine pq_top (if B_2.1 e ≤ t then t else B_2.1 e) ((if_neg c_9).symm) ?_
                exact J8 H locs ls hP hD hS hl
      refine lv_aload_n hx hb dX3_asks_41 rfl (lv_at hl 2 rfl) ?_
      refine va_get (D := D) (ci := 3) (v := .ref z3) (C := RX3) (T := TX3) (N := 18) hx hb hts hin_X3 hown hK hP 0 rfl rfl 3 (by decide) hf_PressedPlainsModel_16 (fun _ h9 => h9) rfl dX3_asks_42 ?_
      refine lv_iload hx hb dX3_asks_45 (lv_at hl 0 rfl) ?_
      refine pq_iald hx hb hK hP 3 0 rfl rfl e (by omega) (by decide) dX3_asks_47 ?_
      refine lv_iload_n hx hb dX3_asks_48 rfl (lv_at hl 4 rfl) ?_
      refine lv_icmp_gt (tgt := 63) hx hb dX3_asks_49 (by decide) (fun c_10 => ?_) (fun c_10 => ?_)
      · refine lv_iconst (v := 1) hx hb dX3_asks_63 (by decide) ?_
        refine lv_goto (tgt := 68) hx hb dX3_asks_64 (by decide) ?_
        exact J3 _ (by rw [if_pos (show mNo fi la e (nI kf) (nI kt) from Or.inl c_10)]) H locs ls hP hD hS hl
      · refine lv_aload_n hx hb dX3_asks_52 rfl (lv_at hl 2 rfl) ?_
        refine va_get (D := D) (ci := 3) (v := .ref z4) (C := RX3) (T := TX3) (N := 18) hx hb hts hin_X3 hown hK hP 0 rfl rfl 4 (by decide) hf_PressedPlainsModel_19 (fun _ h9 => h9) rfl dX3_asks_53 ?_
        refine lv_iload hx hb dX3_asks_56 (lv_at hl 0 rfl) ?_
        refine pq_iald hx hb hK hP 4 0 rfl rfl e (by omega) (by decide) dX3_asks_58 ?_
        refine lv_iload_n hx hb dX3_asks_59 rfl (lv_at hl 3 rfl) ?_
        refine lv_icmp_ge (tgt := 67) hx hb dX3_asks_60 (by decide) (fun c_11 => ?_) (fun c_11 => ?_)
        · refine lv_iconst (v := 0) hx hb dX3_asks_67 (by decide) ?_
          exact J3 _ (by rw [if_neg (show ¬ (mNo fi la e (nI kf) (nI kt)) from fun h => h.elim c_10 (i_nlt c_11))]) H locs ls hP hD hS hl
        · refine lv_iconst (v := 1) hx hb dX3_asks_63 (by decide) ?_
          refine lv_goto (tgt := 68) hx hb dX3_asks_64 (by decide) ?_
          exact J3 _ (by rw [if_pos (show mNo fi la e (nI kf) (nI kt) from Or.inr (i_lt c_11))]) H locs ls hP hD hS hl
  refine LS 7 1 0 B_1 (upd td 0 2) 0 (by decide) (by decide) (by decide) (by decide) hrt rfl (fun T' _ H locs ls hP hD hS hl => ?_) H locs ls hP hD hS hl
  obtain ⟨Rz, hRz⟩ : ∃ zz, zz = (mGrt fi la (nI kf) (nI kt) 7 (0, B_1) 1) := ⟨_, rfl⟩
  rw [← hRz] at hP hD hl
  refine lv_aload_n hx hb dX3_asks_7 rfl (lv_at hl 1 rfl) ?_
  refine va_get (D := D) (ci := 3) (v := .int (nI 0)) (C := RX3) (T := TX3) (N := 18) hx hb hts hin_X3 hown hK hP 0 rfl rfl 10 (by decide) hf_PressedPlainsModel_77 (fun _ h9 => h9) rfl dX3_asks_8 ?_
  refine lv_if_le (tgt := 158) hx hb dX3_asks_11 (by decide) (fun _ => ?_) (fun c9 => absurd (nI_le (a := 0) (b := 0) (by omega) (by omega)) c9)
  refine lv_iload hx hb dX3_asks_158 (lv_at hl 0 rfl) ?_
  exact pq_iret hQ hx hb hr hlocks hK hS hP hD dX3_asks_160 (by omega) (by omega) (⟨by subst hRz; subst hB_1; rfl, T', by subst hRz; subst hB_1; rfl⟩)

set_option maxHeartbeats 4000000 in
set_option maxRecDepth 100000 in
theorem mX3_earth (l : Launch) (D : va_G) (cI : ClassId) (mo z1 z2 z3 z4 z5 z6 z7 z8 z9 : Nat) (col : Int32) (hs cs fi la : Nat → Int32) (B : BK) (td : Nat → Int32) (lf laid piled prs thr : Int32) (x y : Int32) (N : Nat) (hN : col = nI N) (hN1 : 1 ≤ N) (hN2 : N ≤ 64) (hsp : ∀ e, e < 128 → ¬ la e ≤ fi e → e < 64) (hch : ∀ e, 1 ≤ e → e < 64 → ¬ la e ≤ fi e → fi (2 * e) ≤ la (2 * e) ∧ fi (2 * e + 1) ≤ la (2 * e + 1)) (hrt : fi 1 ≤ la 1) : pq_M l yX3_earth wsX3_earth 4 92 0 0 D [(cI, .int)] pq_0 (mdW mo z1 z2 z3 z4 z5 z6 z7 z8 z9 cI col hs cs fi la B td lf laid piled prs thr) [.ref mo, .int x, .int y] (fun v w1 => (cSpan col x y ≠ 0 ∧ v = some (.int 0) ∧ w1 = mdW mo z1 z2 z3 z4 z5 z6 z7 z8 z9 cI col hs cs fi la B td lf laid piled prs (cSpan col x y)) ∨ (∃ kf kt, x = nI kf ∧ y = nI kt ∧ kf ≤ kt ∧ kt < N ∧ v = some (.int (mSum fi la (nI kf) (nI kt) 7 (0, bBegin B) 1).1) ∧ (∃ td2, w1 = mdW mo z1 z2 z3 z4 z5 z6 z7 z8 z9 cI col hs cs fi la ((mSum fi la (nI kf) (nI kt) 7 (0, bBegin B) 1).2) td2 0 laid piled prs 0) ∧ cSpan col x y = 0)) := by
  refine pq_enter (cc := cX3_earth) (maxL := 3) (ret := (some .int)) (by decide) rfl (Nat.le_of_ble_eq_true rfl) ?_
  intro p ev s m args below meth cd A ls Q H locs hx hb hr hml hts hown hlocks hnm hK hP hD hS hA hE hl hQ
  have hl : lv_has ls 3 [(0, .ref mo), (1, .int x), (2, .int y)] := hl
  have hP : va_P D vwCl [(mo, .inr (3, [.int col, .ref z1, .ref z2, .ref z3, .ref z4, .ref z5, .ref z6, .ref z7, .ref z8, .ref z9, .int lf, .int B.2.2.2.2.1, .int B.2.2.2.2.2.1, .int B.2.2.2.2.2.2, .int laid, .int piled, .int prs, .int thr])), (z1, .inl (cI, 64, .inl hs)), (z2, .inl (cI, 64, .inl cs)), (z3, .inl (cI, 128, .inl fi)), (z4, .inl (cI, 128, .inl la)), (z5, .inl (cI, 128, .inl B.1)), (z6, .inl (cI, 128, .inl B.2.1)), (z7, .inl (cI, 128, .inl B.2.2.1)), (z8, .inl (cI, 128, .inl B.2.2.2.1)), (z9, .inl (cI, 64, .inl td))] H := hP
  have hD : va_D A [(mo, .inr (3, [.int col, .ref z1, .ref z2, .ref z3, .ref z4, .ref z5, .ref z6, .ref z7, .ref z8, .ref z9, .int lf, .int B.2.2.2.2.1, .int B.2.2.2.2.2.1, .int B.2.2.2.2.2.2, .int laid, .int piled, .int prs, .int thr])), (z1, .inl (cI, 64, .inl hs)), (z2, .inl (cI, 64, .inl cs)), (z3, .inl (cI, 128, .inl fi)), (z4, .inl (cI, 128, .inl la)), (z5, .inl (cI, 128, .inl B.1)), (z6, .inl (cI, 128, .inl B.2.1)), (z7, .inl (cI, 128, .inl B.2.2.1)), (z8, .inl (cI, 128, .inl B.2.2.2.1)), (z9, .inl (cI, 64, .inl td))] := hD
  refine lv_aload_n hx hb dX3_earth_0 rfl (lv_at hl 0 rfl) ?_
  refine lv_aload_n hx hb dX3_earth_1 rfl (lv_at hl 0 rfl) ?_
  refine lv_iload_n hx hb dX3_earth_2 rfl (lv_at hl 1 rfl) ?_
  refine lv_iload_n hx hb dX3_earth_3 rfl (lv_at hl 2 rfl) ?_
  refine pq_callV (wr := []) (own := RX3) (nL := 3) (q0 := 0) (ci := 3) [0, 1, 2, 3, 4, 5, 6, 7, 8, 9] [] [.int x, .int y] (mX3_isRange l D cI mo z1 z2 z3 z4 z5 z6 z7 z8 z9 col hs cs fi la B td lf laid piled prs thr x y N hN hN1 hN2) ⟨hx, hb, hml, hown, hts⟩ (cwV 2 hts gX3_earth_X3_isRange rfl rfl rfl (by decide +kernel) ⟨by dsimp only [pq_R]; omega, by dsimp only [pq_R]; omega⟩) pq_bl0 (fun _ _ _ => trivial) hK hP hD hS hA rfl (by decide) rfl (by decide) (by decide) rfl rfl rfl rfl hl.1 rfl (Nat.le_of_ble_eq_true rfl) dX3_earth_4 ⟨by dsimp only [pq_R]; omega, by dsimp only [pq_R]; omega⟩ (fun v w1 H locs hq hP hD hS hz => ?_)
  obtain ⟨rfl, rfl⟩ := hq
  have hP : va_P D vwCl [(mo, .inr (3, [.int col, .ref z1, .ref z2, .ref z3, .ref z4, .ref z5, .ref z6, .ref z7, .ref z8, .ref z9, .int lf, .int B.2.2.2.2.1, .int B.2.2.2.2.2.1, .int B.2.2.2.2.2.2, .int laid, .int piled, .int prs, .int thr])), (z1, .inl (cI, 64, .inl hs)), (z2, .inl (cI, 64, .inl cs)), (z3, .inl (cI, 128, .inl fi)), (z4, .inl (cI, 128, .inl la)), (z5, .inl (cI, 128, .inl B.1)), (z6, .inl (cI, 128, .inl B.2.1)), (z7, .inl (cI, 128, .inl B.2.2.1)), (z8, .inl (cI, 128, .inl B.2.2.2.1)), (z9, .inl (cI, 64, .inl td))] H := hP
  have hD : va_D A [(mo, .inr (3, [.int col, .ref z1, .ref z2, .ref z3, .ref z4, .ref z5, .ref z6, .ref z7, .ref z8, .ref z9, .int lf, .int B.2.2.2.2.1, .int B.2.2.2.2.2.1, .int B.2.2.2.2.2.2, .int laid, .int piled, .int prs, .int thr])), (z1, .inl (cI, 64, .inl hs)), (z2, .inl (cI, 64, .inl cs)), (z3, .inl (cI, 128, .inl fi)), (z4, .inl (cI, 128, .inl la)), (z5, .inl (cI, 128, .inl B.1)), (z6, .inl (cI, 128, .inl B.2.1)), (z7, .inl (cI, 128, .inl B.2.2.1)), (z8, .inl (cI, 128, .inl B.2.2.2.1)), (z9, .inl (cI, 64, .inl td))] := hD
  by_cases b_2 : ¬ (bCol col x ∨ bCol col y)
  · rw [if_pos b_2]
    refine W.eq (g2 := F0 m 7 ls [.int 1, .ref mo]) rfl ?_
    refine lv_if_ne (tgt := 14) hx hb dX3_earth_7 (by decide) (fun _ => ?_) (fun c9 => absurd c9 (by decide))
    refine lv_iload_n hx hb dX3_earth_14 rfl (lv_at hl 2 rfl) ?_
    refine lv_iload_n hx hb dX3_earth_15 rfl (lv_at hl 1 rfl) ?_
    refine lv_icmp_ge (tgt := 23) hx hb dX3_earth_16 (by decide) (fun c_3 => ?_) (fun c_3 => ?_)
    · refine lv_iconst (v := 0) hx hb dX3_earth_23 (by decide) ?_
      refine pq_callV (wr := []) (own := RX3) (nL := 3) (q0 := 0) (ci := 3) [0, 1, 2, 3, 4, 5, 6, 7, 8, 9] [] [.int 0] (mX3_isFine l D cI mo z1 z2 z3 z4 z5 z6 z7 z8 z9 col hs cs fi la B td lf laid piled prs thr 0) ⟨hx, hb, hml, hown, hts⟩ (cwV 1 hts gX3_earth_X3_isFine rfl rfl rfl (by decide +kernel) ⟨by dsimp only [pq_R]; omega, by dsimp only [pq_R]; omega⟩) pq_bl0 (fun _ _ _ => trivial) hK hP hD hS hA rfl (by decide) rfl (by decide) (by decide) rfl rfl rfl rfl hl.1 rfl (Nat.le_of_ble_eq_true rfl) dX3_earth_24 ⟨by dsimp only [pq_R]; omega, by dsimp only [pq_R]; omega⟩ (fun v w1 H locs hq hP hD hS hz => ?_)
      obtain ⟨rfl, rfl⟩ := hq
      rw [if_pos rfl]
      have hP : va_P D vwCl [(mo, .inr (3, [.int col, .ref z1, .ref z2, .ref z3, .ref z4, .ref z5, .ref z6, .ref z7, .ref z8, .ref z9, .int lf, .int B.2.2.2.2.1, .int B.2.2.2.2.2.1, .int B.2.2.2.2.2.2, .int laid, .int piled, .int prs, .int 0])), (z1, .inl (cI, 64, .inl hs)), (z2, .inl (cI, 64, .inl cs)), (z3, .inl (cI, 128, .inl fi)), (z4, .inl (cI, 128, .inl la)), (z5, .inl (cI, 128, .inl B.1)), (z6, .inl (cI, 128, .inl B.2.1)), (z7, .inl (cI, 128, .inl B.2.2.1)), (z8, .inl (cI, 128, .inl B.2.2.2.1)), (z9, .inl (cI, 64, .inl td))] H := hP
      have hD : va_D A [(mo, .inr (3, [.int col, .ref z1, .ref z2, .ref z3, .ref z4, .ref z5, .ref z6, .ref z7, .ref z8, .ref z9, .int lf, .int B.2.2.2.2.1, .int B.2.2.2.2.2.1, .int B.2.2.2.2.2.2, .int laid, .int piled, .int prs, .int 0])), (z1, .inl (cI, 64, .inl hs)), (z2, .inl (cI, 64, .inl cs)), (z3, .inl (cI, 128, .inl fi)), (z4, .inl (cI, 128, .inl la)), (z5, .inl (cI, 128, .inl B.1)), (z6, .inl (cI, 128, .inl B.2.1)), (z7, .inl (cI, 128, .inl B.2.2.1)), (z8, .inl (cI, 128, .inl B.2.2.2.1)), (z9, .inl (cI, 64, .inl td))] := hD
      refine W.eq (g2 := F0 m 27 ls [.int 1]) rfl ?_
      refine lv_if_eq (tgt := 40) hx hb dX3_earth_27 (by decide) (fun c9 => absurd c9 (by decide)) (fun _ => ?_)
      have hnsp : nSp col x y := ⟨b_2, i_nlt c_3⟩
      obtain ⟨kf, kt, hft, htN, rfl, rfl⟩ := spN hnsp hN hN2
      refine lv_aload_n hx hb dX3_earth_30 rfl (lv_at hl 0 rfl) ?_
      refine lv_iload_n hx hb dX3_earth_31 rfl (lv_at hl 1 rfl) ?_
      refine lv_iload_n hx hb dX3_earth_32 rfl (lv_at hl 2 rfl) ?_
      refine lv_iconst (v := 1) hx hb dX3_earth_33 (by decide) ?_
      refine pq_callV (wr := []) (own := RX3) (nL := 3) (q0 := 0) (ci := 3) [0, 1, 2, 3, 4, 5, 6, 7, 8, 9] [] [.int (nI kf), .int (nI kt), .int 1] (mX3_asks1 l D cI mo z1 z2 z3 z4 z5 z6 z7 z8 z9 col hs cs fi la B td lf laid piled prs 0 kf kt hsp hch hrt) ⟨hx, hb, hml, hown, hts⟩ (cwV 3 hts gX3_earth_X3_asks rfl rfl rfl (by decide +kernel) ⟨by dsimp only [pq_R]; omega, by dsimp only [pq_R]; omega⟩) pq_bl0 (fun _ _ _ => trivial) hK hP hD hS hA rfl (by decide) rfl (by decide) (by decide) rfl rfl rfl rfl hl.1 rfl (Nat.le_of_ble_eq_true rfl) dX3_earth_34 ⟨by dsimp only [pq_R]; omega, by dsimp only [pq_R]; omega⟩ (fun v w1 H locs hq hP hD hS hz => ?_)
      obtain ⟨rfl, td_5, rfl⟩ := hq
      have hP : va_P D vwCl [(mo, .inr (3, [.int col, .ref z1, .ref z2, .ref z3, .ref z4, .ref z5, .ref z6, .ref z7, .ref z8, .ref z9, .int 0, .int ((mSum fi la (nI kf) (nI kt) 7 (0, bBegin B) 1).2.2.2.2.2.1), .int ((mSum fi la (nI kf) (nI kt) 7 (0, bBegin B) 1).2.2.2.2.2.2.1), .int ((mSum fi la (nI kf) (nI kt) 7 (0, bBegin B) 1).2.2.2.2.2.2.2), .int laid, .int piled, .int prs, .int 0])), (z1, .inl (cI, 64, .inl hs)), (z2, .inl (cI, 64, .inl cs)), (z3, .inl (cI, 128, .inl fi)), (z4, .inl (cI, 128, .inl la)), (z5, .inl (cI, 128, .inl ((mSum fi la (nI kf) (nI kt) 7 (0, bBegin B) 1).2.1))), (z6, .inl (cI, 128, .inl ((mSum fi la (nI kf) (nI kt) 7 (0, bBegin B) 1).2.2.1))), (z7, .inl (cI, 128, .inl ((mSum fi la (nI kf) (nI kt) 7 (0, bBegin B) 1).2.2.2.1))), (z8, .inl (cI, 128, .inl ((mSum fi la (nI kf) (nI kt) 7 (0, bBegin B) 1).2.2.2.2.1))), (z9, .inl (cI, 64, .inl td_5))] H := hP
      have hD : va_D A [(mo, .inr (3, [.int col, .ref z1, .ref z2, .ref z3, .ref z4, .ref z5, .ref z6, .ref z7, .ref z8, .ref z9, .int 0, .int ((mSum fi la (nI kf) (nI kt) 7 (0, bBegin B) 1).2.2.2.2.2.1), .int ((mSum fi la (nI kf) (nI kt) 7 (0, bBegin B) 1).2.2.2.2.2.2.1), .int ((mSum fi la (nI kf) (nI kt) 7 (0, bBegin B) 1).2.2.2.2.2.2.2), .int laid, .int piled, .int prs, .int 0])), (z1, .inl (cI, 64, .inl hs)), (z2, .inl (cI, 64, .inl cs)), (z3, .inl (cI, 128, .inl fi)), (z4, .inl (cI, 128, .inl la)), (z5, .inl (cI, 128, .inl ((mSum fi la (nI kf) (nI kt) 7 (0, bBegin B) 1).2.1))), (z6, .inl (cI, 128, .inl ((mSum fi la (nI kf) (nI kt) 7 (0, bBegin B) 1).2.2.1))), (z7, .inl (cI, 128, .inl ((mSum fi la (nI kf) (nI kt) 7 (0, bBegin B) 1).2.2.2.1))), (z8, .inl (cI, 128, .inl ((mSum fi la (nI kf) (nI kt) 7 (0, bBegin B) 1).2.2.2.2.1))), (z9, .inl (cI, 64, .inl td_5))] := hD
      refine W.eq (g2 := F0 m 37 ls [.int ((mSum fi la (nI kf) (nI kt) 7 (0, bBegin B) 1).1)]) rfl ?_
      refine lv_goto (tgt := 41) hx hb dX3_earth_37 (by decide) ?_
      exact pq_iret hQ hx hb hr hlocks hK hS hP hD dX3_earth_41 (by omega) (by omega) (Or.inr ⟨kf, kt, rfl, rfl, hft, htN, rfl, ⟨_, rfl⟩, cl_span hnsp⟩)
    · refine lv_iconst (v := 2) hx hb dX3_earth_19 (by decide) ?_
      refine lv_goto (tgt := 24) hx hb dX3_earth_20 (by decide) ?_
      refine pq_callV (wr := []) (own := RX3) (nL := 3) (q0 := 0) (ci := 3) [0, 1, 2, 3, 4, 5, 6, 7, 8, 9] [] [.int 2] (mX3_isFine l D cI mo z1 z2 z3 z4 z5 z6 z7 z8 z9 col hs cs fi la B td lf laid piled prs thr 2) ⟨hx, hb, hml, hown, hts⟩ (cwV 1 hts gX3_earth_X3_isFine rfl rfl rfl (by decide +kernel) ⟨by dsimp only [pq_R]; omega, by dsimp only [pq_R]; omega⟩) pq_bl0 (fun _ _ _ => trivial) hK hP hD hS hA rfl (by decide) rfl (by decide) (by decide) rfl rfl rfl rfl hl.1 rfl (Nat.le_of_ble_eq_true rfl) dX3_earth_24 ⟨by dsimp only [pq_R]; omega, by dsimp only [pq_R]; omega⟩ (fun v w1 H locs hq hP hD hS hz => ?_)
      obtain ⟨rfl, rfl⟩ := hq
      rw [if_neg (show ¬ (2 : Int32) = 0 by decide)]
      have hP : va_P D vwCl [(mo, .inr (3, [.int col, .ref z1, .ref z2, .ref z3, .ref z4, .ref z5, .ref z6, .ref z7, .ref z8, .ref z9, .int lf, .int B.2.2.2.2.1, .int B.2.2.2.2.2.1, .int B.2.2.2.2.2.2, .int laid, .int piled, .int prs, .int 2])), (z1, .inl (cI, 64, .inl hs)), (z2, .inl (cI, 64, .inl cs)), (z3, .inl (cI, 128, .inl fi)), (z4, .inl (cI, 128, .inl la)), (z5, .inl (cI, 128, .inl B.1)), (z6, .inl (cI, 128, .inl B.2.1)), (z7, .inl (cI, 128, .inl B.2.2.1)), (z8, .inl (cI, 128, .inl B.2.2.2.1)), (z9, .inl (cI, 64, .inl td))] H := hP
      have hD : va_D A [(mo, .inr (3, [.int col, .ref z1, .ref z2, .ref z3, .ref z4, .ref z5, .ref z6, .ref z7, .ref z8, .ref z9, .int lf, .int B.2.2.2.2.1, .int B.2.2.2.2.2.1, .int B.2.2.2.2.2.2, .int laid, .int piled, .int prs, .int 2])), (z1, .inl (cI, 64, .inl hs)), (z2, .inl (cI, 64, .inl cs)), (z3, .inl (cI, 128, .inl fi)), (z4, .inl (cI, 128, .inl la)), (z5, .inl (cI, 128, .inl B.1)), (z6, .inl (cI, 128, .inl B.2.1)), (z7, .inl (cI, 128, .inl B.2.2.1)), (z8, .inl (cI, 128, .inl B.2.2.2.1)), (z9, .inl (cI, 64, .inl td))] := hD
      refine W.eq (g2 := F0 m 27 ls [.int 0]) rfl ?_
      refine lv_if_eq (tgt := 40) hx hb dX3_earth_27 (by decide) (fun _ => ?_) (fun c9 => absurd c9 (by decide))
      refine lv_iconst (v := 0) hx hb dX3_earth_40 (by decide) ?_
      exact pq_iret hQ hx hb hr hlocks hK hS hP hD dX3_earth_41 (by omega) (by omega) (by have hcd : cSpan col x y = 2 := (by rw [cSpan, if_neg b_2, if_pos (i_lt c_3)]); exact Or.inl ⟨by rw [hcd]; decide, rfl, by rw [hcd] <;> rfl⟩)
  · rw [if_neg b_2]
    refine W.eq (g2 := F0 m 7 ls [.int 0, .ref mo]) rfl ?_
    refine lv_if_ne (tgt := 14) hx hb dX3_earth_7 (by decide) (fun c9 => absurd c9 (by decide)) (fun _ => ?_)
    refine lv_iconst (v := 1) hx hb dX3_earth_10 (by decide) ?_
    refine lv_goto (tgt := 24) hx hb dX3_earth_11 (by decide) ?_
    refine pq_callV (wr := []) (own := RX3) (nL := 3) (q0 := 0) (ci := 3) [0, 1, 2, 3, 4, 5, 6, 7, 8, 9] [] [.int 1] (mX3_isFine l D cI mo z1 z2 z3 z4 z5 z6 z7 z8 z9 col hs cs fi la B td lf laid piled prs thr 1) ⟨hx, hb, hml, hown, hts⟩ (cwV 1 hts gX3_earth_X3_isFine rfl rfl rfl (by decide +kernel) ⟨by dsimp only [pq_R]; omega, by dsimp only [pq_R]; omega⟩) pq_bl0 (fun _ _ _ => trivial) hK hP hD hS hA rfl (by decide) rfl (by decide) (by decide) rfl rfl rfl rfl hl.1 rfl (Nat.le_of_ble_eq_true rfl) dX3_earth_24 ⟨by dsimp only [pq_R]; omega, by dsimp only [pq_R]; omega⟩ (fun v w1 H locs hq hP hD hS hz => ?_)
    obtain ⟨rfl, rfl⟩ := hq
    rw [if_neg (show ¬ (1 : Int32) = 0 by decide)]
    have hP : va_P D vwCl [(mo, .inr (3, [.int col, .ref z1, .ref z2, .ref z3, .ref z4, .ref z5, .ref z6, .ref z7, .ref z8, .ref z9, .int lf, .int B.2.2.2.2.1, .int B.2.2.2.2.2.1, .int B.2.2.2.2.2.2, .int laid, .int piled, .int prs, .int 1])), (z1, .inl (cI, 64, .inl hs)), (z2, .inl (cI, 64, .inl cs)), (z3, .inl (cI, 128, .inl fi)), (z4, .inl (cI, 128, .inl la)), (z5, .inl (cI, 128, .inl B.1)), (z6, .inl (cI, 128, .inl B.2.1)), (z7, .inl (cI, 128, .inl B.2.2.1)), (z8, .inl (cI, 128, .inl B.2.2.2.1)), (z9, .inl (cI, 64, .inl td))] H := hP
    have hD : va_D A [(mo, .inr (3, [.int col, .ref z1, .ref z2, .ref z3, .ref z4, .ref z5, .ref z6, .ref z7, .ref z8, .ref z9, .int lf, .int B.2.2.2.2.1, .int B.2.2.2.2.2.1, .int B.2.2.2.2.2.2, .int laid, .int piled, .int prs, .int 1])), (z1, .inl (cI, 64, .inl hs)), (z2, .inl (cI, 64, .inl cs)), (z3, .inl (cI, 128, .inl fi)), (z4, .inl (cI, 128, .inl la)), (z5, .inl (cI, 128, .inl B.1)), (z6, .inl (cI, 128, .inl B.2.1)), (z7, .inl (cI, 128, .inl B.2.2.1)), (z8, .inl (cI, 128, .inl B.2.2.2.1)), (z9, .inl (cI, 64, .inl td))] := hD
    refine W.eq (g2 := F0 m 27 ls [.int 0]) rfl ?_
    refine lv_if_eq (tgt := 40) hx hb dX3_earth_27 (by decide) (fun _ => ?_) (fun c9 => absurd c9 (by decide))
    refine lv_iconst (v := 0) hx hb dX3_earth_40 (by decide) ?_
    exact pq_iret hQ hx hb hr hlocks hK hS hP hD dX3_earth_41 (by omega) (by omega) (by have hcd : cSpan col x y = 1 := (by rw [cSpan, if_pos (Classical.not_not.mp b_2)]); exact Or.inl ⟨by rw [hcd]; decide, rfl, by rw [hcd] <;> rfl⟩)

set_option maxHeartbeats 4000000 in
set_option maxRecDepth 100000 in
theorem mX3_top (l : Launch) (D : va_G) (cI : ClassId) (mo z1 z2 z3 z4 z5 z6 z7 z8 z9 : Nat) (col : Int32) (hs cs fi la : Nat → Int32) (B : BK) (td : Nat → Int32) (lf laid piled prs thr : Int32) (x y : Int32) (N : Nat) (hN : col = nI N) (hN1 : 1 ≤ N) (hN2 : N ≤ 64) (hsp : ∀ e, e < 128 → ¬ la e ≤ fi e → e < 64) (hch : ∀ e, 1 ≤ e → e < 64 → ¬ la e ≤ fi e → fi (2 * e) ≤ la (2 * e) ∧ fi (2 * e + 1) ≤ la (2 * e + 1)) (hrt : fi 1 ≤ la 1) : pq_M l yX3_top wsX3_top 4 92 0 0 D [(cI, .int)] pq_0 (mdW mo z1 z2 z3 z4 z5 z6 z7 z8 z9 cI col hs cs fi la B td lf laid piled prs thr) [.ref mo, .int x, .int y] (fun v w1 => (cSpan col x y ≠ 0 ∧ v = some (.int 0) ∧ w1 = mdW mo z1 z2 z3 z4 z5 z6 z7 z8 z9 cI col hs cs fi la B td lf laid piled prs (cSpan col x y)) ∨ (∃ kf kt, x = nI kf ∧ y = nI kt ∧ kf ≤ kt ∧ kt < N ∧ v = some (.int (mGrt fi la (nI kf) (nI kt) 7 (0, bBegin B) 1).1) ∧ (∃ td2, w1 = mdW mo z1 z2 z3 z4 z5 z6 z7 z8 z9 cI col hs cs fi la ((mGrt fi la (nI kf) (nI kt) 7 (0, bBegin B) 1).2) td2 0 laid piled prs 0) ∧ cSpan col x y = 0)) := by
  refine pq_enter (cc := cX3_top) (maxL := 3) (ret := (some .int)) (by decide) rfl (Nat.le_of_ble_eq_true rfl) ?_
  intro p ev s m args below meth cd A ls Q H locs hx hb hr hml hts hown hlocks hnm hK hP hD hS hA hE hl hQ
  have hl : lv_has ls 3 [(0, .ref mo), (1, .int x), (2, .int y)] := hl
  have hP : va_P D vwCl [(mo, .inr (3, [.int col, .ref z1, .ref z2, .ref z3, .ref z4, .ref z5, .ref z6, .ref z7, .ref z8, .ref z9, .int lf, .int B.2.2.2.2.1, .int B.2.2.2.2.2.1, .int B.2.2.2.2.2.2, .int laid, .int piled, .int prs, .int thr])), (z1, .inl (cI, 64, .inl hs)), (z2, .inl (cI, 64, .inl cs)), (z3, .inl (cI, 128, .inl fi)), (z4, .inl (cI, 128, .inl la)), (z5, .inl (cI, 128, .inl B.1)), (z6, .inl (cI, 128, .inl B.2.1)), (z7, .inl (cI, 128, .inl B.2.2.1)), (z8, .inl (cI, 128, .inl B.2.2.2.1)), (z9, .inl (cI, 64, .inl td))] H := hP
  have hD : va_D A [(mo, .inr (3, [.int col, .ref z1, .ref z2, .ref z3, .ref z4, .ref z5, .ref z6, .ref z7, .ref z8, .ref z9, .int lf, .int B.2.2.2.2.1, .int B.2.2.2.2.2.1, .int B.2.2.2.2.2.2, .int laid, .int piled, .int prs, .int thr])), (z1, .inl (cI, 64, .inl hs)), (z2, .inl (cI, 64, .inl cs)), (z3, .inl (cI, 128, .inl fi)), (z4, .inl (cI, 128, .inl la)), (z5, .inl (cI, 128, .inl B.1)), (z6, .inl (cI, 128, .inl B.2.1)), (z7, .inl (cI, 128, .inl B.2.2.1)), (z8, .inl (cI, 128, .inl B.2.2.2.1)), (z9, .inl (cI, 64, .inl td))] := hD
  refine lv_aload_n hx hb dX3_top_0 rfl (lv_at hl 0 rfl) ?_
  refine lv_aload_n hx hb dX3_top_1 rfl (lv_at hl 0 rfl) ?_
  refine lv_iload_n hx hb dX3_top_2 rfl (lv_at hl 1 rfl) ?_
  refine lv_iload_n hx hb dX3_top_3 rfl (lv_at hl 2 rfl) ?_
  refine pq_callV (wr := []) (own := RX3) (nL := 3) (q0 := 0) (ci := 3) [0, 1, 2, 3, 4, 5, 6, 7, 8, 9] [] [.int x, .int y] (mX3_isRange l D cI mo z1 z2 z3 z4 z5 z6 z7 z8 z9 col hs cs fi la B td lf laid piled prs thr x y N hN hN1 hN2) ⟨hx, hb, hml, hown, hts⟩ (cwV 2 hts gX3_top_X3_isRange rfl rfl rfl (by decide +kernel) ⟨by dsimp only [pq_R]; omega, by dsimp only [pq_R]; omega⟩) pq_bl0 (fun _ _ _ => trivial) hK hP hD hS hA rfl (by decide) rfl (by decide) (by decide) rfl rfl rfl rfl hl.1 rfl (Nat.le_of_ble_eq_true rfl) dX3_top_4 ⟨by dsimp only [pq_R]; omega, by dsimp only [pq_R]; omega⟩ (fun v w1 H locs hq hP hD hS hz => ?_)
  obtain ⟨rfl, rfl⟩ := hq
  have hP : va_P D vwCl [(mo, .inr (3, [.int col, .ref z1, .ref z2, .ref z3, .ref z4, .ref z5, .ref z6, .ref z7, .ref z8, .ref z9, .int lf, .int B.2.2.2.2.1, .int B.2.2.2.2.2.1, .int B.2.2.2.2.2.2, .int laid, .int piled, .int prs, .int thr])), (z1, .inl (cI, 64, .inl hs)), (z2, .inl (cI, 64, .inl cs)), (z3, .inl (cI, 128, .inl fi)), (z4, .inl (cI, 128, .inl la)), (z5, .inl (cI, 128, .inl B.1)), (z6, .inl (cI, 128, .inl B.2.1)), (z7, .inl (cI, 128, .inl B.2.2.1)), (z8, .inl (cI, 128, .inl B.2.2.2.1)), (z9, .inl (cI, 64, .inl td))] H := hP
  have hD : va_D A [(mo, .inr (3, [.int col, .ref z1, .ref z2, .ref z3, .ref z4, .ref z5, .ref z6, .ref z7, .ref z8, .ref z9, .int lf, .int B.2.2.2.2.1, .int B.2.2.2.2.2.1, .int B.2.2.2.2.2.2, .int laid, .int piled, .int prs, .int thr])), (z1, .inl (cI, 64, .inl hs)), (z2, .inl (cI, 64, .inl cs)), (z3, .inl (cI, 128, .inl fi)), (z4, .inl (cI, 128, .inl la)), (z5, .inl (cI, 128, .inl B.1)), (z6, .inl (cI, 128, .inl B.2.1)), (z7, .inl (cI, 128, .inl B.2.2.1)), (z8, .inl (cI, 128, .inl B.2.2.2.1)), (z9, .inl (cI, 64, .inl td))] := hD
  by_cases b_2 : ¬ (bCol col x ∨ bCol col y)
  · rw [if_pos b_2]
    refine W.eq (g2 := F0 m 7 ls [.int 1, .ref mo]) rfl ?_
    refine lv_if_ne (tgt := 14) hx hb dX3_top_7 (by decide) (fun _ => ?_) (fun c9 => absurd c9 (by decide))
    refine lv_iload_n hx hb dX3_top_14 rfl (lv_at hl 2 rfl) ?_
    refine lv_iload_n hx hb dX3_top_15 rfl (lv_at hl 1 rfl) ?_
    refine lv_icmp_ge (tgt := 23) hx hb dX3_top_16 (by decide) (fun c_3 => ?_) (fun c_3 => ?_)
    · refine lv_iconst (v := 0) hx hb dX3_top_23 (by decide) ?_
      refine pq_callV (wr := []) (own := RX3) (nL := 3) (q0 := 0) (ci := 3) [0, 1, 2, 3, 4, 5, 6, 7, 8, 9] [] [.int 0] (mX3_isFine l D cI mo z1 z2 z3 z4 z5 z6 z7 z8 z9 col hs cs fi la B td lf laid piled prs thr 0) ⟨hx, hb, hml, hown, hts⟩ (cwV 1 hts gX3_top_X3_isFine rfl rfl rfl (by decide +kernel) ⟨by dsimp only [pq_R]; omega, by dsimp only [pq_R]; omega⟩) pq_bl0 (fun _ _ _ => trivial) hK hP hD hS hA rfl (by decide) rfl (by decide) (by decide) rfl rfl rfl rfl hl.1 rfl (Nat.le_of_ble_eq_true rfl) dX3_top_24 ⟨by dsimp only [pq_R]; omega, by dsimp only [pq_R]; omega⟩ (fun v w1 H locs hq hP hD hS hz => ?_)
      obtain ⟨rfl, rfl⟩ := hq
      rw [if_pos rfl]
      have hP : va_P D vwCl [(mo, .inr (3, [.int col, .ref z1, .ref z2, .ref z3, .ref z4, .ref z5, .ref z6, .ref z7, .ref z8, .ref z9, .int lf, .int B.2.2.2.2.1, .int B.2.2.2.2.2.1, .int B.2.2.2.2.2.2, .int laid, .int piled, .int prs, .int 0])), (z1, .inl (cI, 64, .inl hs)), (z2, .inl (cI, 64, .inl cs)), (z3, .inl (cI, 128, .inl fi)), (z4, .inl (cI, 128, .inl la)), (z5, .inl (cI, 128, .inl B.1)), (z6, .inl (cI, 128, .inl B.2.1)), (z7, .inl (cI, 128, .inl B.2.2.1)), (z8, .inl (cI, 128, .inl B.2.2.2.1)), (z9, .inl (cI, 64, .inl td))] H := hP
      have hD : va_D A [(mo, .inr (3, [.int col, .ref z1, .ref z2, .ref z3, .ref z4, .ref z5, .ref z6, .ref z7, .ref z8, .ref z9, .int lf, .int B.2.2.2.2.1, .int B.2.2.2.2.2.1, .int B.2.2.2.2.2.2, .int laid, .int piled, .int prs, .int 0])), (z1, .inl (cI, 64, .inl hs)), (z2, .inl (cI, 64, .inl cs)), (z3, .inl (cI, 128, .inl fi)), (z4, .inl (cI, 128, .inl la)), (z5, .inl (cI, 128, .inl B.1)), (z6, .inl (cI, 128, .inl B.2.1)), (z7, .inl (cI, 128, .inl B.2.2.1)), (z8, .inl (cI, 128, .inl B.2.2.2.1)), (z9, .inl (cI, 64, .inl td))] := hD
      refine W.eq (g2 := F0 m 27 ls [.int 1]) rfl ?_
      refine lv_if_eq (tgt := 40) hx hb dX3_top_27 (by decide) (fun c9 => absurd c9 (by decide)) (fun _ => ?_)
      have hnsp : nSp col x y := ⟨b_2, i_nlt c_3⟩
      obtain ⟨kf, kt, hft, htN, rfl, rfl⟩ := spN hnsp hN hN2
      refine lv_aload_n hx hb dX3_top_30 rfl (lv_at hl 0 rfl) ?_
      refine lv_iload_n hx hb dX3_top_31 rfl (lv_at hl 1 rfl) ?_
      refine lv_iload_n hx hb dX3_top_32 rfl (lv_at hl 2 rfl) ?_
      refine lv_iconst (v := 0) hx hb dX3_top_33 (by decide) ?_
      refine pq_callV (wr := []) (own := RX3) (nL := 3) (q0 := 0) (ci := 3) [0, 1, 2, 3, 4, 5, 6, 7, 8, 9] [] [.int (nI kf), .int (nI kt), .int 0] (mX3_asks0 l D cI mo z1 z2 z3 z4 z5 z6 z7 z8 z9 col hs cs fi la B td lf laid piled prs 0 kf kt hsp hch hrt) ⟨hx, hb, hml, hown, hts⟩ (cwV 3 hts gX3_top_X3_asks rfl rfl rfl (by decide +kernel) ⟨by dsimp only [pq_R]; omega, by dsimp only [pq_R]; omega⟩) pq_bl0 (fun _ _ _ => trivial) hK hP hD hS hA rfl (by decide) rfl (by decide) (by decide) rfl rfl rfl rfl hl.1 rfl (Nat.le_of_ble_eq_true rfl) dX3_top_34 ⟨by dsimp only [pq_R]; omega, by dsimp only [pq_R]; omega⟩ (fun v w1 H locs hq hP hD hS hz => ?_)
      obtain ⟨rfl, td_5, rfl⟩ := hq
      have hP : va_P D vwCl [(mo, .inr (3, [.int col, .ref z1, .ref z2, .ref z3, .ref z4, .ref z5, .ref z6, .ref z7, .ref z8, .ref z9, .int 0, .int ((mGrt fi la (nI kf) (nI kt) 7 (0, bBegin B) 1).2.2.2.2.2.1), .int ((mGrt fi la (nI kf) (nI kt) 7 (0, bBegin B) 1).2.2.2.2.2.2.1), .int ((mGrt fi la (nI kf) (nI kt) 7 (0, bBegin B) 1).2.2.2.2.2.2.2), .int laid, .int piled, .int prs, .int 0])), (z1, .inl (cI, 64, .inl hs)), (z2, .inl (cI, 64, .inl cs)), (z3, .inl (cI, 128, .inl fi)), (z4, .inl (cI, 128, .inl la)), (z5, .inl (cI, 128, .inl ((mGrt fi la (nI kf) (nI kt) 7 (0, bBegin B) 1).2.1))), (z6, .inl (cI, 128, .inl ((mGrt fi la (nI kf) (nI kt) 7 (0, bBegin B) 1).2.2.1))), (z7, .inl (cI, 128, .inl ((mGrt fi la (nI kf) (nI kt) 7 (0, bBegin B) 1).2.2.2.1))), (z8, .inl (cI, 128, .inl ((mGrt fi la (nI kf) (nI kt) 7 (0, bBegin B) 1).2.2.2.2.1))), (z9, .inl (cI, 64, .inl td_5))] H := hP
      have hD : va_D A [(mo, .inr (3, [.int col, .ref z1, .ref z2, .ref z3, .ref z4, .ref z5, .ref z6, .ref z7, .ref z8, .ref z9, .int 0, .int ((mGrt fi la (nI kf) (nI kt) 7 (0, bBegin B) 1).2.2.2.2.2.1), .int ((mGrt fi la (nI kf) (nI kt) 7 (0, bBegin B) 1).2.2.2.2.2.2.1), .int ((mGrt fi la (nI kf) (nI kt) 7 (0, bBegin B) 1).2.2.2.2.2.2.2), .int laid, .int piled, .int prs, .int 0])), (z1, .inl (cI, 64, .inl hs)), (z2, .inl (cI, 64, .inl cs)), (z3, .inl (cI, 128, .inl fi)), (z4, .inl (cI, 128, .inl la)), (z5, .inl (cI, 128, .inl ((mGrt fi la (nI kf) (nI kt) 7 (0, bBegin B) 1).2.1))), (z6, .inl (cI, 128, .inl ((mGrt fi la (nI kf) (nI kt) 7 (0, bBegin B) 1).2.2.1))), (z7, .inl (cI, 128, .inl ((mGrt fi la (nI kf) (nI kt) 7 (0, bBegin B) 1).2.2.2.1))), (z8, .inl (cI, 128, .inl ((mGrt fi la (nI kf) (nI kt) 7 (0, bBegin B) 1).2.2.2.2.1))), (z9, .inl (cI, 64, .inl td_5))] := hD
      refine W.eq (g2 := F0 m 37 ls [.int ((mGrt fi la (nI kf) (nI kt) 7 (0, bBegin B) 1).1)]) rfl ?_
      refine lv_goto (tgt := 41) hx hb dX3_top_37 (by decide) ?_
      exact pq_iret hQ hx hb hr hlocks hK hS hP hD dX3_top_41 (by omega) (by omega) (Or.inr ⟨kf, kt, rfl, rfl, hft, htN, rfl, ⟨_, rfl⟩, cl_span hnsp⟩)
    · refine lv_iconst (v := 2) hx hb dX3_top_19 (by decide) ?_
      refine lv_goto (tgt := 24) hx hb dX3_top_20 (by decide) ?_
      refine pq_callV (wr := []) (own := RX3) (nL := 3) (q0 := 0) (ci := 3) [0, 1, 2, 3, 4, 5, 6, 7, 8, 9] [] [.int 2] (mX3_isFine l D cI mo z1 z2 z3 z4 z5 z6 z7 z8 z9 col hs cs fi la B td lf laid piled prs thr 2) ⟨hx, hb, hml, hown, hts⟩ (cwV 1 hts gX3_top_X3_isFine rfl rfl rfl (by decide +kernel) ⟨by dsimp only [pq_R]; omega, by dsimp only [pq_R]; omega⟩) pq_bl0 (fun _ _ _ => trivial) hK hP hD hS hA rfl (by decide) rfl (by decide) (by decide) rfl rfl rfl rfl hl.1 rfl (Nat.le_of_ble_eq_true rfl) dX3_top_24 ⟨by dsimp only [pq_R]; omega, by dsimp only [pq_R]; omega⟩ (fun v w1 H locs hq hP hD hS hz => ?_)
      obtain ⟨rfl, rfl⟩ := hq
      rw [if_neg (show ¬ (2 : Int32) = 0 by decide)]
      have hP : va_P D vwCl [(mo, .inr (3, [.int col, .ref z1, .ref z2, .ref z3, .ref z4, .ref z5, .ref z6, .ref z7, .ref z8, .ref z9, .int lf, .int B.2.2.2.2.1, .int B.2.2.2.2.2.1, .int B.2.2.2.2.2.2, .int laid, .int piled, .int prs, .int 2])), (z1, .inl (cI, 64, .inl hs)), (z2, .inl (cI, 64, .inl cs)), (z3, .inl (cI, 128, .inl fi)), (z4, .inl (cI, 128, .inl la)), (z5, .inl (cI, 128, .inl B.1)), (z6, .inl (cI, 128, .inl B.2.1)), (z7, .inl (cI, 128, .inl B.2.2.1)), (z8, .inl (cI, 128, .inl B.2.2.2.1)), (z9, .inl (cI, 64, .inl td))] H := hP
      have hD : va_D A [(mo, .inr (3, [.int col, .ref z1, .ref z2, .ref z3, .ref z4, .ref z5, .ref z6, .ref z7, .ref z8, .ref z9, .int lf, .int B.2.2.2.2.1, .int B.2.2.2.2.2.1, .int B.2.2.2.2.2.2, .int laid, .int piled, .int prs, .int 2])), (z1, .inl (cI, 64, .inl hs)), (z2, .inl (cI, 64, .inl cs)), (z3, .inl (cI, 128, .inl fi)), (z4, .inl (cI, 128, .inl la)), (z5, .inl (cI, 128, .inl B.1)), (z6, .inl (cI, 128, .inl B.2.1)), (z7, .inl (cI, 128, .inl B.2.2.1)), (z8, .inl (cI, 128, .inl B.2.2.2.1)), (z9, .inl (cI, 64, .inl td))] := hD
      refine W.eq (g2 := F0 m 27 ls [.int 0]) rfl ?_
      refine lv_if_eq (tgt := 40) hx hb dX3_top_27 (by decide) (fun _ => ?_) (fun c9 => absurd c9 (by decide))
      refine lv_iconst (v := 0) hx hb dX3_top_40 (by decide) ?_
      exact pq_iret hQ hx hb hr hlocks hK hS hP hD dX3_top_41 (by omega) (by omega) (by have hcd : cSpan col x y = 2 := (by rw [cSpan, if_neg b_2, if_pos (i_lt c_3)]); exact Or.inl ⟨by rw [hcd]; decide, rfl, by rw [hcd] <;> rfl⟩)
  · rw [if_neg b_2]
    refine W.eq (g2 := F0 m 7 ls [.int 0, .ref mo]) rfl ?_
    refine lv_if_ne (tgt := 14) hx hb dX3_top_7 (by decide) (fun c9 => absurd c9 (by decide)) (fun _ => ?_)
    refine lv_iconst (v := 1) hx hb dX3_top_10 (by decide) ?_
    refine lv_goto (tgt := 24) hx hb dX3_top_11 (by decide) ?_
    refine pq_callV (wr := []) (own := RX3) (nL := 3) (q0 := 0) (ci := 3) [0, 1, 2, 3, 4, 5, 6, 7, 8, 9] [] [.int 1] (mX3_isFine l D cI mo z1 z2 z3 z4 z5 z6 z7 z8 z9 col hs cs fi la B td lf laid piled prs thr 1) ⟨hx, hb, hml, hown, hts⟩ (cwV 1 hts gX3_top_X3_isFine rfl rfl rfl (by decide +kernel) ⟨by dsimp only [pq_R]; omega, by dsimp only [pq_R]; omega⟩) pq_bl0 (fun _ _ _ => trivial) hK hP hD hS hA rfl (by decide) rfl (by decide) (by decide) rfl rfl rfl rfl hl.1 rfl (Nat.le_of_ble_eq_true rfl) dX3_top_24 ⟨by dsimp only [pq_R]; omega, by dsimp only [pq_R]; omega⟩ (fun v w1 H locs hq hP hD hS hz => ?_)
    obtain ⟨rfl, rfl⟩ := hq
    rw [if_neg (show ¬ (1 : Int32) = 0 by decide)]
    have hP : va_P D vwCl [(mo, .inr (3, [.int col, .ref z1, .ref z2, .ref z3, .ref z4, .ref z5, .ref z6, .ref z7, .ref z8, .ref z9, .int lf, .int B.2.2.2.2.1, .int B.2.2.2.2.2.1, .int B.2.2.2.2.2.2, .int laid, .int piled, .int prs, .int 1])), (z1, .inl (cI, 64, .inl hs)), (z2, .inl (cI, 64, .inl cs)), (z3, .inl (cI, 128, .inl fi)), (z4, .inl (cI, 128, .inl la)), (z5, .inl (cI, 128, .inl B.1)), (z6, .inl (cI, 128, .inl B.2.1)), (z7, .inl (cI, 128, .inl B.2.2.1)), (z8, .inl (cI, 128, .inl B.2.2.2.1)), (z9, .inl (cI, 64, .inl td))] H := hP
    have hD : va_D A [(mo, .inr (3, [.int col, .ref z1, .ref z2, .ref z3, .ref z4, .ref z5, .ref z6, .ref z7, .ref z8, .ref z9, .int lf, .int B.2.2.2.2.1, .int B.2.2.2.2.2.1, .int B.2.2.2.2.2.2, .int laid, .int piled, .int prs, .int 1])), (z1, .inl (cI, 64, .inl hs)), (z2, .inl (cI, 64, .inl cs)), (z3, .inl (cI, 128, .inl fi)), (z4, .inl (cI, 128, .inl la)), (z5, .inl (cI, 128, .inl B.1)), (z6, .inl (cI, 128, .inl B.2.1)), (z7, .inl (cI, 128, .inl B.2.2.1)), (z8, .inl (cI, 128, .inl B.2.2.2.1)), (z9, .inl (cI, 64, .inl td))] := hD
    refine W.eq (g2 := F0 m 27 ls [.int 0]) rfl ?_
    refine lv_if_eq (tgt := 40) hx hb dX3_top_27 (by decide) (fun _ => ?_) (fun c9 => absurd c9 (by decide))
    refine lv_iconst (v := 0) hx hb dX3_top_40 (by decide) ?_
    exact pq_iret hQ hx hb hr hlocks hK hS hP hD dX3_top_41 (by omega) (by omega) (by have hcd : cSpan col x y = 1 := (by rw [cSpan, if_pos (Classical.not_not.mp b_2)]); exact Or.inl ⟨by rw [hcd]; decide, rfl, by rw [hcd] <;> rfl⟩)

set_option maxHeartbeats 4000000 in
set_option maxRecDepth 100000 in
theorem mX3_earthByColumns (l : Launch) (D : va_G) (cI : ClassId) (mo z1 z2 z3 z4 z5 z6 z7 z8 z9 : Nat) (col : Int32) (hs cs fi la : Nat → Int32) (B : BK) (td : Nat → Int32) (lf laid piled prs thr : Int32) (x y : Int32) (N : Nat) (hN : col = nI N) (hN1 : 1 ≤ N) (hN2 : N ≤ 64) : pq_M l yX3_earthByColumns wsX3_earthByColumns 3 65 0 0 D [(cI, .int)] pq_0 (mdW mo z1 z2 z3 z4 z5 z6 z7 z8 z9 cI col hs cs fi la B td lf laid piled prs thr) [.ref mo, .int x, .int y] (fun v w1 => (cSpan col x y ≠ 0 ∧ v = some (.int 0) ∧ w1 = mdW mo z1 z2 z3 z4 z5 z6 z7 z8 z9 cI col hs cs fi la B td lf laid piled prs (cSpan col x y)) ∨ (∃ kf kt, x = nI kf ∧ y = nI kt ∧ kf ≤ kt ∧ kt < N ∧ v = some (.int (mAbove hs kf (kt + 1 - kf) 0)) ∧ w1 = mdW mo z1 z2 z3 z4 z5 z6 z7 z8 z9 cI col hs cs fi la B td lf laid piled prs 0 ∧ cSpan col x y = 0)) := by
  refine pq_enter (cc := cX3_earthByColumns) (maxL := 3) (ret := (some .int)) (by decide) rfl (Nat.le_of_ble_eq_true rfl) ?_
  intro p ev s m args below meth cd A ls Q H locs hx hb hr hml hts hown hlocks hnm hK hP hD hS hA hE hl hQ
  have hl : lv_has ls 3 [(0, .ref mo), (1, .int x), (2, .int y)] := hl
  have hP : va_P D vwCl [(mo, .inr (3, [.int col, .ref z1, .ref z2, .ref z3, .ref z4, .ref z5, .ref z6, .ref z7, .ref z8, .ref z9, .int lf, .int B.2.2.2.2.1, .int B.2.2.2.2.2.1, .int B.2.2.2.2.2.2, .int laid, .int piled, .int prs, .int thr])), (z1, .inl (cI, 64, .inl hs)), (z2, .inl (cI, 64, .inl cs)), (z3, .inl (cI, 128, .inl fi)), (z4, .inl (cI, 128, .inl la)), (z5, .inl (cI, 128, .inl B.1)), (z6, .inl (cI, 128, .inl B.2.1)), (z7, .inl (cI, 128, .inl B.2.2.1)), (z8, .inl (cI, 128, .inl B.2.2.2.1)), (z9, .inl (cI, 64, .inl td))] H := hP
  have hD : va_D A [(mo, .inr (3, [.int col, .ref z1, .ref z2, .ref z3, .ref z4, .ref z5, .ref z6, .ref z7, .ref z8, .ref z9, .int lf, .int B.2.2.2.2.1, .int B.2.2.2.2.2.1, .int B.2.2.2.2.2.2, .int laid, .int piled, .int prs, .int thr])), (z1, .inl (cI, 64, .inl hs)), (z2, .inl (cI, 64, .inl cs)), (z3, .inl (cI, 128, .inl fi)), (z4, .inl (cI, 128, .inl la)), (z5, .inl (cI, 128, .inl B.1)), (z6, .inl (cI, 128, .inl B.2.1)), (z7, .inl (cI, 128, .inl B.2.2.1)), (z8, .inl (cI, 128, .inl B.2.2.2.1)), (z9, .inl (cI, 64, .inl td))] := hD
  refine lv_aload_n hx hb dX3_earthByColumns_0 rfl (lv_at hl 0 rfl) ?_
  refine lv_aload_n hx hb dX3_earthByColumns_1 rfl (lv_at hl 0 rfl) ?_
  refine lv_iload_n hx hb dX3_earthByColumns_2 rfl (lv_at hl 1 rfl) ?_
  refine lv_iload_n hx hb dX3_earthByColumns_3 rfl (lv_at hl 2 rfl) ?_
  refine pq_callV (wr := []) (own := RX3) (nL := 3) (q0 := 0) (ci := 3) [0, 1, 2, 3, 4, 5, 6, 7, 8, 9] [] [.int x, .int y] (mX3_isRange l D cI mo z1 z2 z3 z4 z5 z6 z7 z8 z9 col hs cs fi la B td lf laid piled prs thr x y N hN hN1 hN2) ⟨hx, hb, hml, hown, hts⟩ (cwV 2 hts gX3_earthByColumns_X3_isRange rfl rfl rfl (by decide +kernel) ⟨by dsimp only [pq_R]; omega, by dsimp only [pq_R]; omega⟩) pq_bl0 (fun _ _ _ => trivial) hK hP hD hS hA rfl (by decide) rfl (by decide) (by decide) rfl rfl rfl rfl hl.1 rfl (Nat.le_of_ble_eq_true rfl) dX3_earthByColumns_4 ⟨by dsimp only [pq_R]; omega, by dsimp only [pq_R]; omega⟩ (fun v w1 H locs hq hP hD hS hz => ?_)
  obtain ⟨rfl, rfl⟩ := hq
  have hP : va_P D vwCl [(mo, .inr (3, [.int col, .ref z1, .ref z2, .ref z3, .ref z4, .ref z5, .ref z6, .ref z7, .ref z8, .ref z9, .int lf, .int B.2.2.2.2.1, .int B.2.2.2.2.2.1, .int B.2.2.2.2.2.2, .int laid, .int piled, .int prs, .int thr])), (z1, .inl (cI, 64, .inl hs)), (z2, .inl (cI, 64, .inl cs)), (z3, .inl (cI, 128, .inl fi)), (z4, .inl (cI, 128, .inl la)), (z5, .inl (cI, 128, .inl B.1)), (z6, .inl (cI, 128, .inl B.2.1)), (z7, .inl (cI, 128, .inl B.2.2.1)), (z8, .inl (cI, 128, .inl B.2.2.2.1)), (z9, .inl (cI, 64, .inl td))] H := hP
  have hD : va_D A [(mo, .inr (3, [.int col, .ref z1, .ref z2, .ref z3, .ref z4, .ref z5, .ref z6, .ref z7, .ref z8, .ref z9, .int lf, .int B.2.2.2.2.1, .int B.2.2.2.2.2.1, .int B.2.2.2.2.2.2, .int laid, .int piled, .int prs, .int thr])), (z1, .inl (cI, 64, .inl hs)), (z2, .inl (cI, 64, .inl cs)), (z3, .inl (cI, 128, .inl fi)), (z4, .inl (cI, 128, .inl la)), (z5, .inl (cI, 128, .inl B.1)), (z6, .inl (cI, 128, .inl B.2.1)), (z7, .inl (cI, 128, .inl B.2.2.1)), (z8, .inl (cI, 128, .inl B.2.2.2.1)), (z9, .inl (cI, 64, .inl td))] := hD
  by_cases b_2 : ¬ (bCol col x ∨ bCol col y)
  · rw [if_pos b_2]
    refine W.eq (g2 := F0 m 7 ls [.int 1, .ref mo]) rfl ?_
    refine lv_if_ne (tgt := 14) hx hb dX3_earthByColumns_7 (by decide) (fun _ => ?_) (fun c9 => absurd c9 (by decide))
    refine lv_iload_n hx hb dX3_earthByColumns_14 rfl (lv_at hl 2 rfl) ?_
    refine lv_iload_n hx hb dX3_earthByColumns_15 rfl (lv_at hl 1 rfl) ?_
    refine lv_icmp_ge (tgt := 23) hx hb dX3_earthByColumns_16 (by decide) (fun c_3 => ?_) (fun c_3 => ?_)
    · refine lv_iconst (v := 0) hx hb dX3_earthByColumns_23 (by decide) ?_
      refine pq_callV (wr := []) (own := RX3) (nL := 3) (q0 := 0) (ci := 3) [0, 1, 2, 3, 4, 5, 6, 7, 8, 9] [] [.int 0] (mX3_isFine l D cI mo z1 z2 z3 z4 z5 z6 z7 z8 z9 col hs cs fi la B td lf laid piled prs thr 0) ⟨hx, hb, hml, hown, hts⟩ (cwV 1 hts gX3_earthByColumns_X3_isFine rfl rfl rfl (by decide +kernel) ⟨by dsimp only [pq_R]; omega, by dsimp only [pq_R]; omega⟩) pq_bl0 (fun _ _ _ => trivial) hK hP hD hS hA rfl (by decide) rfl (by decide) (by decide) rfl rfl rfl rfl hl.1 rfl (Nat.le_of_ble_eq_true rfl) dX3_earthByColumns_24 ⟨by dsimp only [pq_R]; omega, by dsimp only [pq_R]; omega⟩ (fun v w1 H locs hq hP hD hS hz => ?_)
      obtain ⟨rfl, rfl⟩ := hq
      rw [if_pos rfl]
      have hP : va_P D vwCl [(mo, .inr (3, [.int col, .ref z1, .ref z2, .ref z3, .ref z4, .ref z5, .ref z6, .ref z7, .ref z8, .ref z9, .int lf, .int B.2.2.2.2.1, .int B.2.2.2.2.2.1, .int B.2.2.2.2.2.2, .int laid, .int piled, .int prs, .int 0])), (z1, .inl (cI, 64, .inl hs)), (z2, .inl (cI, 64, .inl cs)), (z3, .inl (cI, 128, .inl fi)), (z4, .inl (cI, 128, .inl la)), (z5, .inl (cI, 128, .inl B.1)), (z6, .inl (cI, 128, .inl B.2.1)), (z7, .inl (cI, 128, .inl B.2.2.1)), (z8, .inl (cI, 128, .inl B.2.2.2.1)), (z9, .inl (cI, 64, .inl td))] H := hP
      have hD : va_D A [(mo, .inr (3, [.int col, .ref z1, .ref z2, .ref z3, .ref z4, .ref z5, .ref z6, .ref z7, .ref z8, .ref z9, .int lf, .int B.2.2.2.2.1, .int B.2.2.2.2.2.1, .int B.2.2.2.2.2.2, .int laid, .int piled, .int prs, .int 0])), (z1, .inl (cI, 64, .inl hs)), (z2, .inl (cI, 64, .inl cs)), (z3, .inl (cI, 128, .inl fi)), (z4, .inl (cI, 128, .inl la)), (z5, .inl (cI, 128, .inl B.1)), (z6, .inl (cI, 128, .inl B.2.1)), (z7, .inl (cI, 128, .inl B.2.2.1)), (z8, .inl (cI, 128, .inl B.2.2.2.1)), (z9, .inl (cI, 64, .inl td))] := hD
      refine W.eq (g2 := F0 m 27 ls [.int 1]) rfl ?_
      refine lv_if_eq (tgt := 40) hx hb dX3_earthByColumns_27 (by decide) (fun c9 => absurd c9 (by decide)) (fun _ => ?_)
      have hnsp : nSp col x y := ⟨b_2, i_nlt c_3⟩
      obtain ⟨kf, kt, hft, htN, rfl, rfl⟩ := spN hnsp hN hN2
      refine lv_aload_n hx hb dX3_earthByColumns_30 rfl (lv_at hl 0 rfl) ?_
      refine lv_iload_n hx hb dX3_earthByColumns_31 rfl (lv_at hl 1 rfl) ?_
      refine lv_iload_n hx hb dX3_earthByColumns_32 rfl (lv_at hl 2 rfl) ?_
      refine lv_iconst (v := 0) hx hb dX3_earthByColumns_33 (by decide) ?_
      refine pq_callV (wr := []) (own := RX3) (nL := 3) (q0 := 0) (ci := 3) [0, 1, 2, 3, 4, 5, 6, 7, 8, 9] [] [.int (nI kf), .int (nI kt), .int 0] (mX3_presses l D cI mo z1 z2 z3 z4 z5 z6 z7 z8 z9 col hs cs fi la B td lf laid piled prs 0 kf kt 0 (by omega) (by omega)) ⟨hx, hb, hml, hown, hts⟩ (cwV 3 hts gX3_earthByColumns_X3_presses rfl rfl rfl (by decide +kernel) ⟨by dsimp only [pq_R]; omega, by dsimp only [pq_R]; omega⟩) pq_bl0 (fun _ _ _ => trivial) hK hP hD hS hA rfl (by decide) rfl (by decide) (by decide) rfl rfl rfl rfl hl.1 rfl (Nat.le_of_ble_eq_true rfl) dX3_earthByColumns_34 ⟨by dsimp only [pq_R]; omega, by dsimp only [pq_R]; omega⟩ (fun v w1 H locs hq hP hD hS hz => ?_)
      obtain ⟨rfl, rfl⟩ := hq
      have hP : va_P D vwCl [(mo, .inr (3, [.int col, .ref z1, .ref z2, .ref z3, .ref z4, .ref z5, .ref z6, .ref z7, .ref z8, .ref z9, .int lf, .int B.2.2.2.2.1, .int B.2.2.2.2.2.1, .int B.2.2.2.2.2.2, .int laid, .int piled, .int prs, .int 0])), (z1, .inl (cI, 64, .inl hs)), (z2, .inl (cI, 64, .inl cs)), (z3, .inl (cI, 128, .inl fi)), (z4, .inl (cI, 128, .inl la)), (z5, .inl (cI, 128, .inl B.1)), (z6, .inl (cI, 128, .inl B.2.1)), (z7, .inl (cI, 128, .inl B.2.2.1)), (z8, .inl (cI, 128, .inl B.2.2.2.1)), (z9, .inl (cI, 64, .inl td))] H := hP
      have hD : va_D A [(mo, .inr (3, [.int col, .ref z1, .ref z2, .ref z3, .ref z4, .ref z5, .ref z6, .ref z7, .ref z8, .ref z9, .int lf, .int B.2.2.2.2.1, .int B.2.2.2.2.2.1, .int B.2.2.2.2.2.2, .int laid, .int piled, .int prs, .int 0])), (z1, .inl (cI, 64, .inl hs)), (z2, .inl (cI, 64, .inl cs)), (z3, .inl (cI, 128, .inl fi)), (z4, .inl (cI, 128, .inl la)), (z5, .inl (cI, 128, .inl B.1)), (z6, .inl (cI, 128, .inl B.2.1)), (z7, .inl (cI, 128, .inl B.2.2.1)), (z8, .inl (cI, 128, .inl B.2.2.2.1)), (z9, .inl (cI, 64, .inl td))] := hD
      refine W.eq (g2 := F0 m 37 ls [.int (mAbove hs kf (kt + 1 - kf) 0)]) rfl ?_
      refine lv_goto (tgt := 41) hx hb dX3_earthByColumns_37 (by decide) ?_
      exact pq_iret hQ hx hb hr hlocks hK hS hP hD dX3_earthByColumns_41 (by omega) (by omega) (Or.inr ⟨kf, kt, rfl, rfl, hft, htN, rfl, rfl, cl_span hnsp⟩)
    · refine lv_iconst (v := 2) hx hb dX3_earthByColumns_19 (by decide) ?_
      refine lv_goto (tgt := 24) hx hb dX3_earthByColumns_20 (by decide) ?_
      refine pq_callV (wr := []) (own := RX3) (nL := 3) (q0 := 0) (ci := 3) [0, 1, 2, 3, 4, 5, 6, 7, 8, 9] [] [.int 2] (mX3_isFine l D cI mo z1 z2 z3 z4 z5 z6 z7 z8 z9 col hs cs fi la B td lf laid piled prs thr 2) ⟨hx, hb, hml, hown, hts⟩ (cwV 1 hts gX3_earthByColumns_X3_isFine rfl rfl rfl (by decide +kernel) ⟨by dsimp only [pq_R]; omega, by dsimp only [pq_R]; omega⟩) pq_bl0 (fun _ _ _ => trivial) hK hP hD hS hA rfl (by decide) rfl (by decide) (by decide) rfl rfl rfl rfl hl.1 rfl (Nat.le_of_ble_eq_true rfl) dX3_earthByColumns_24 ⟨by dsimp only [pq_R]; omega, by dsimp only [pq_R]; omega⟩ (fun v w1 H locs hq hP hD hS hz => ?_)
      obtain ⟨rfl, rfl⟩ := hq
      rw [if_neg (show ¬ (2 : Int32) = 0 by decide)]
      have hP : va_P D vwCl [(mo, .inr (3, [.int col, .ref z1, .ref z2, .ref z3, .ref z4, .ref z5, .ref z6, .ref z7, .ref z8, .ref z9, .int lf, .int B.2.2.2.2.1, .int B.2.2.2.2.2.1, .int B.2.2.2.2.2.2, .int laid, .int piled, .int prs, .int 2])), (z1, .inl (cI, 64, .inl hs)), (z2, .inl (cI, 64, .inl cs)), (z3, .inl (cI, 128, .inl fi)), (z4, .inl (cI, 128, .inl la)), (z5, .inl (cI, 128, .inl B.1)), (z6, .inl (cI, 128, .inl B.2.1)), (z7, .inl (cI, 128, .inl B.2.2.1)), (z8, .inl (cI, 128, .inl B.2.2.2.1)), (z9, .inl (cI, 64, .inl td))] H := hP
      have hD : va_D A [(mo, .inr (3, [.int col, .ref z1, .ref z2, .ref z3, .ref z4, .ref z5, .ref z6, .ref z7, .ref z8, .ref z9, .int lf, .int B.2.2.2.2.1, .int B.2.2.2.2.2.1, .int B.2.2.2.2.2.2, .int laid, .int piled, .int prs, .int 2])), (z1, .inl (cI, 64, .inl hs)), (z2, .inl (cI, 64, .inl cs)), (z3, .inl (cI, 128, .inl fi)), (z4, .inl (cI, 128, .inl la)), (z5, .inl (cI, 128, .inl B.1)), (z6, .inl (cI, 128, .inl B.2.1)), (z7, .inl (cI, 128, .inl B.2.2.1)), (z8, .inl (cI, 128, .inl B.2.2.2.1)), (z9, .inl (cI, 64, .inl td))] := hD
      refine W.eq (g2 := F0 m 27 ls [.int 0]) rfl ?_
      refine lv_if_eq (tgt := 40) hx hb dX3_earthByColumns_27 (by decide) (fun _ => ?_) (fun c9 => absurd c9 (by decide))
      refine lv_iconst (v := 0) hx hb dX3_earthByColumns_40 (by decide) ?_
      exact pq_iret hQ hx hb hr hlocks hK hS hP hD dX3_earthByColumns_41 (by omega) (by omega) (by have hcd : cSpan col x y = 2 := (by rw [cSpan, if_neg b_2, if_pos (i_lt c_3)]); exact Or.inl ⟨by rw [hcd]; decide, rfl, by rw [hcd] <;> rfl⟩)
  · rw [if_neg b_2]
    refine W.eq (g2 := F0 m 7 ls [.int 0, .ref mo]) rfl ?_
    refine lv_if_ne (tgt := 14) hx hb dX3_earthByColumns_7 (by decide) (fun c9 => absurd c9 (by decide)) (fun _ => ?_)
    refine lv_iconst (v := 1) hx hb dX3_earthByColumns_10 (by decide) ?_
    refine lv_goto (tgt := 24) hx hb dX3_earthByColumns_11 (by decide) ?_
    refine pq_callV (wr := []) (own := RX3) (nL := 3) (q0 := 0) (ci := 3) [0, 1, 2, 3, 4, 5, 6, 7, 8, 9] [] [.int 1] (mX3_isFine l D cI mo z1 z2 z3 z4 z5 z6 z7 z8 z9 col hs cs fi la B td lf laid piled prs thr 1) ⟨hx, hb, hml, hown, hts⟩ (cwV 1 hts gX3_earthByColumns_X3_isFine rfl rfl rfl (by decide +kernel) ⟨by dsimp only [pq_R]; omega, by dsimp only [pq_R]; omega⟩) pq_bl0 (fun _ _ _ => trivial) hK hP hD hS hA rfl (by decide) rfl (by decide) (by decide) rfl rfl rfl rfl hl.1 rfl (Nat.le_of_ble_eq_true rfl) dX3_earthByColumns_24 ⟨by dsimp only [pq_R]; omega, by dsimp only [pq_R]; omega⟩ (fun v w1 H locs hq hP hD hS hz => ?_)
    obtain ⟨rfl, rfl⟩ := hq
    rw [if_neg (show ¬ (1 : Int32) = 0 by decide)]
    have hP : va_P D vwCl [(mo, .inr (3, [.int col, .ref z1, .ref z2, .ref z3, .ref z4, .ref z5, .ref z6, .ref z7, .ref z8, .ref z9, .int lf, .int B.2.2.2.2.1, .int B.2.2.2.2.2.1, .int B.2.2.2.2.2.2, .int laid, .int piled, .int prs, .int 1])), (z1, .inl (cI, 64, .inl hs)), (z2, .inl (cI, 64, .inl cs)), (z3, .inl (cI, 128, .inl fi)), (z4, .inl (cI, 128, .inl la)), (z5, .inl (cI, 128, .inl B.1)), (z6, .inl (cI, 128, .inl B.2.1)), (z7, .inl (cI, 128, .inl B.2.2.1)), (z8, .inl (cI, 128, .inl B.2.2.2.1)), (z9, .inl (cI, 64, .inl td))] H := hP
    have hD : va_D A [(mo, .inr (3, [.int col, .ref z1, .ref z2, .ref z3, .ref z4, .ref z5, .ref z6, .ref z7, .ref z8, .ref z9, .int lf, .int B.2.2.2.2.1, .int B.2.2.2.2.2.1, .int B.2.2.2.2.2.2, .int laid, .int piled, .int prs, .int 1])), (z1, .inl (cI, 64, .inl hs)), (z2, .inl (cI, 64, .inl cs)), (z3, .inl (cI, 128, .inl fi)), (z4, .inl (cI, 128, .inl la)), (z5, .inl (cI, 128, .inl B.1)), (z6, .inl (cI, 128, .inl B.2.1)), (z7, .inl (cI, 128, .inl B.2.2.1)), (z8, .inl (cI, 128, .inl B.2.2.2.1)), (z9, .inl (cI, 64, .inl td))] := hD
    refine W.eq (g2 := F0 m 27 ls [.int 0]) rfl ?_
    refine lv_if_eq (tgt := 40) hx hb dX3_earthByColumns_27 (by decide) (fun _ => ?_) (fun c9 => absurd c9 (by decide))
    refine lv_iconst (v := 0) hx hb dX3_earthByColumns_40 (by decide) ?_
    exact pq_iret hQ hx hb hr hlocks hK hS hP hD dX3_earthByColumns_41 (by omega) (by omega) (by have hcd : cSpan col x y = 1 := (by rw [cSpan, if_pos (Classical.not_not.mp b_2)]); exact Or.inl ⟨by rw [hcd]; decide, rfl, by rw [hcd] <;> rfl⟩)

set_option maxHeartbeats 4000000 in
set_option maxRecDepth 100000 in
theorem mX3_wouldPress (l : Launch) (D : va_G) (cI : ClassId) (mo z1 z2 z3 z4 z5 z6 z7 z8 z9 : Nat) (col : Int32) (hs cs fi la : Nat → Int32) (B : BK) (td : Nat → Int32) (lf laid piled prs thr : Int32) (x y c0 : Int32) (N : Nat) (hN : col = nI N) (hN1 : 1 ≤ N) (hN2 : N ≤ 64) : pq_M l yX3_wouldPress wsX3_wouldPress 3 65 0 0 D [(cI, .int)] pq_0 (mdW mo z1 z2 z3 z4 z5 z6 z7 z8 z9 cI col hs cs fi la B td lf laid piled prs thr) [.ref mo, .int x, .int y, .int c0] (fun v w1 => (cLow col x y c0 0 1000 ≠ 0 ∧ v = some (.int 0) ∧ w1 = mdW mo z1 z2 z3 z4 z5 z6 z7 z8 z9 cI col hs cs fi la B td lf laid piled prs (cLow col x y c0 0 1000)) ∨ (∃ kf kt, x = nI kf ∧ y = nI kt ∧ kf ≤ kt ∧ kt < N ∧ v = some (.int (mAbove hs kf (kt + 1 - kf) c0)) ∧ w1 = mdW mo z1 z2 z3 z4 z5 z6 z7 z8 z9 cI col hs cs fi la B td lf laid piled prs 0 ∧ cLow col x y c0 0 1000 = 0)) := by
  refine pq_enter (cc := cX3_wouldPress) (maxL := 4) (ret := (some .int)) (by decide) rfl (Nat.le_of_ble_eq_true rfl) ?_
  intro p ev s m args below meth cd A ls Q H locs hx hb hr hml hts hown hlocks hnm hK hP hD hS hA hE hl hQ
  have hl : lv_has ls 4 [(0, .ref mo), (1, .int x), (2, .int y), (3, .int c0)] := hl
  have hP : va_P D vwCl [(mo, .inr (3, [.int col, .ref z1, .ref z2, .ref z3, .ref z4, .ref z5, .ref z6, .ref z7, .ref z8, .ref z9, .int lf, .int B.2.2.2.2.1, .int B.2.2.2.2.2.1, .int B.2.2.2.2.2.2, .int laid, .int piled, .int prs, .int thr])), (z1, .inl (cI, 64, .inl hs)), (z2, .inl (cI, 64, .inl cs)), (z3, .inl (cI, 128, .inl fi)), (z4, .inl (cI, 128, .inl la)), (z5, .inl (cI, 128, .inl B.1)), (z6, .inl (cI, 128, .inl B.2.1)), (z7, .inl (cI, 128, .inl B.2.2.1)), (z8, .inl (cI, 128, .inl B.2.2.2.1)), (z9, .inl (cI, 64, .inl td))] H := hP
  have hD : va_D A [(mo, .inr (3, [.int col, .ref z1, .ref z2, .ref z3, .ref z4, .ref z5, .ref z6, .ref z7, .ref z8, .ref z9, .int lf, .int B.2.2.2.2.1, .int B.2.2.2.2.2.1, .int B.2.2.2.2.2.2, .int laid, .int piled, .int prs, .int thr])), (z1, .inl (cI, 64, .inl hs)), (z2, .inl (cI, 64, .inl cs)), (z3, .inl (cI, 128, .inl fi)), (z4, .inl (cI, 128, .inl la)), (z5, .inl (cI, 128, .inl B.1)), (z6, .inl (cI, 128, .inl B.2.1)), (z7, .inl (cI, 128, .inl B.2.2.1)), (z8, .inl (cI, 128, .inl B.2.2.2.1)), (z9, .inl (cI, 64, .inl td))] := hD
  refine lv_aload_n hx hb dX3_wouldPress_0 rfl (lv_at hl 0 rfl) ?_
  refine lv_aload_n hx hb dX3_wouldPress_1 rfl (lv_at hl 0 rfl) ?_
  refine lv_iload_n hx hb dX3_wouldPress_2 rfl (lv_at hl 1 rfl) ?_
  refine lv_iload_n hx hb dX3_wouldPress_3 rfl (lv_at hl 2 rfl) ?_
  refine pq_callV (wr := []) (own := RX3) (nL := 4) (q0 := 0) (ci := 3) [0, 1, 2, 3, 4, 5, 6, 7, 8, 9] [] [.int x, .int y] (mX3_isRange l D cI mo z1 z2 z3 z4 z5 z6 z7 z8 z9 col hs cs fi la B td lf laid piled prs thr x y N hN hN1 hN2) ⟨hx, hb, hml, hown, hts⟩ (cwV 2 hts gX3_wouldPress_X3_isRange rfl rfl rfl (by decide +kernel) ⟨by dsimp only [pq_R]; omega, by dsimp only [pq_R]; omega⟩) pq_bl0 (fun _ _ _ => trivial) hK hP hD hS hA rfl (by decide) rfl (by decide) (by decide) rfl rfl rfl rfl hl.1 rfl (Nat.le_of_ble_eq_true rfl) dX3_wouldPress_4 ⟨by dsimp only [pq_R]; omega, by dsimp only [pq_R]; omega⟩ (fun v w1 H locs hq hP hD hS hz => ?_)
  obtain ⟨rfl, rfl⟩ := hq
  have hP : va_P D vwCl [(mo, .inr (3, [.int col, .ref z1, .ref z2, .ref z3, .ref z4, .ref z5, .ref z6, .ref z7, .ref z8, .ref z9, .int lf, .int B.2.2.2.2.1, .int B.2.2.2.2.2.1, .int B.2.2.2.2.2.2, .int laid, .int piled, .int prs, .int thr])), (z1, .inl (cI, 64, .inl hs)), (z2, .inl (cI, 64, .inl cs)), (z3, .inl (cI, 128, .inl fi)), (z4, .inl (cI, 128, .inl la)), (z5, .inl (cI, 128, .inl B.1)), (z6, .inl (cI, 128, .inl B.2.1)), (z7, .inl (cI, 128, .inl B.2.2.1)), (z8, .inl (cI, 128, .inl B.2.2.2.1)), (z9, .inl (cI, 64, .inl td))] H := hP
  have hD : va_D A [(mo, .inr (3, [.int col, .ref z1, .ref z2, .ref z3, .ref z4, .ref z5, .ref z6, .ref z7, .ref z8, .ref z9, .int lf, .int B.2.2.2.2.1, .int B.2.2.2.2.2.1, .int B.2.2.2.2.2.2, .int laid, .int piled, .int prs, .int thr])), (z1, .inl (cI, 64, .inl hs)), (z2, .inl (cI, 64, .inl cs)), (z3, .inl (cI, 128, .inl fi)), (z4, .inl (cI, 128, .inl la)), (z5, .inl (cI, 128, .inl B.1)), (z6, .inl (cI, 128, .inl B.2.1)), (z7, .inl (cI, 128, .inl B.2.2.1)), (z8, .inl (cI, 128, .inl B.2.2.2.1)), (z9, .inl (cI, 64, .inl td))] := hD
  by_cases b_2 : ¬ (bCol col x ∨ bCol col y)
  · rw [if_pos b_2]
    refine W.eq (g2 := F0 m 7 ls [.int 1, .ref mo]) rfl ?_
    refine lv_if_ne (tgt := 14) hx hb dX3_wouldPress_7 (by decide) (fun _ => ?_) (fun c9 => absurd c9 (by decide))
    refine lv_iload_n hx hb dX3_wouldPress_14 rfl (lv_at hl 2 rfl) ?_
    refine lv_iload_n hx hb dX3_wouldPress_15 rfl (lv_at hl 1 rfl) ?_
    refine lv_icmp_lt (tgt := 30) hx hb dX3_wouldPress_16 (by decide) (fun c_3 => ?_) (fun c_3 => ?_)
    · refine lv_iconst (v := 2) hx hb dX3_wouldPress_30 (by decide) ?_
      refine lv_goto (tgt := 35) hx hb dX3_wouldPress_31 (by decide) ?_
      refine pq_callV (wr := []) (own := RX3) (nL := 4) (q0 := 0) (ci := 3) [0, 1, 2, 3, 4, 5, 6, 7, 8, 9] [] [.int 2] (mX3_isFine l D cI mo z1 z2 z3 z4 z5 z6 z7 z8 z9 col hs cs fi la B td lf laid piled prs thr 2) ⟨hx, hb, hml, hown, hts⟩ (cwV 1 hts gX3_wouldPress_X3_isFine rfl rfl rfl (by decide +kernel) ⟨by dsimp only [pq_R]; omega, by dsimp only [pq_R]; omega⟩) pq_bl0 (fun _ _ _ => trivial) hK hP hD hS hA rfl (by decide) rfl (by decide) (by decide) rfl rfl rfl rfl hl.1 rfl (Nat.le_of_ble_eq_true rfl) dX3_wouldPress_35 ⟨by dsimp only [pq_R]; omega, by dsimp only [pq_R]; omega⟩ (fun v w1 H locs hq hP hD hS hz => ?_)
      obtain ⟨rfl, rfl⟩ := hq
      rw [if_neg (show ¬ (2 : Int32) = 0 by decide)]
      have hP : va_P D vwCl [(mo, .inr (3, [.int col, .ref z1, .ref z2, .ref z3, .ref z4, .ref z5, .ref z6, .ref z7, .ref z8, .ref z9, .int lf, .int B.2.2.2.2.1, .int B.2.2.2.2.2.1, .int B.2.2.2.2.2.2, .int laid, .int piled, .int prs, .int 2])), (z1, .inl (cI, 64, .inl hs)), (z2, .inl (cI, 64, .inl cs)), (z3, .inl (cI, 128, .inl fi)), (z4, .inl (cI, 128, .inl la)), (z5, .inl (cI, 128, .inl B.1)), (z6, .inl (cI, 128, .inl B.2.1)), (z7, .inl (cI, 128, .inl B.2.2.1)), (z8, .inl (cI, 128, .inl B.2.2.2.1)), (z9, .inl (cI, 64, .inl td))] H := hP
      have hD : va_D A [(mo, .inr (3, [.int col, .ref z1, .ref z2, .ref z3, .ref z4, .ref z5, .ref z6, .ref z7, .ref z8, .ref z9, .int lf, .int B.2.2.2.2.1, .int B.2.2.2.2.2.1, .int B.2.2.2.2.2.2, .int laid, .int piled, .int prs, .int 2])), (z1, .inl (cI, 64, .inl hs)), (z2, .inl (cI, 64, .inl cs)), (z3, .inl (cI, 128, .inl fi)), (z4, .inl (cI, 128, .inl la)), (z5, .inl (cI, 128, .inl B.1)), (z6, .inl (cI, 128, .inl B.2.1)), (z7, .inl (cI, 128, .inl B.2.2.1)), (z8, .inl (cI, 128, .inl B.2.2.2.1)), (z9, .inl (cI, 64, .inl td))] := hD
      refine W.eq (g2 := F0 m 38 ls [.int 0]) rfl ?_
      refine lv_if_eq (tgt := 51) hx hb dX3_wouldPress_38 (by decide) (fun _ => ?_) (fun c9 => absurd c9 (by decide))
      refine lv_iconst (v := 0) hx hb dX3_wouldPress_51 (by decide) ?_
      exact pq_iret hQ hx hb hr hlocks hK hS hP hD dX3_wouldPress_52 (by omega) (by omega) (by have hcd : cLow col x y c0 0 1000 = 2 := (by rw [cLow, if_neg b_2, if_pos (Or.inl c_3)]); exact Or.inl ⟨by rw [hcd]; decide, rfl, by rw [hcd] <;> rfl⟩)
    · refine lv_iload_n hx hb dX3_wouldPress_19 rfl (lv_at hl 3 rfl) ?_
      refine lv_iconst (v := 0) hx hb dX3_wouldPress_20 (by decide) ?_
      refine lv_sipush (v := 1000) hx hb dX3_wouldPress_21 (by decide) ?_
      refine pq_callS (wr := [(mo, .inr (3, [.int col, .ref z1, .ref z2, .ref z3, .ref z4, .ref z5, .ref z6, .ref z7, .ref z8, .ref z9, .int lf, .int B.2.2.2.2.1, .int B.2.2.2.2.2.1, .int B.2.2.2.2.2.2, .int laid, .int piled, .int prs, .int thr])), (z1, .inl (cI, 64, .inl hs)), (z2, .inl (cI, 64, .inl cs)), (z3, .inl (cI, 128, .inl fi)), (z4, .inl (cI, 128, .inl la)), (z5, .inl (cI, 128, .inl B.1)), (z6, .inl (cI, 128, .inl B.2.1)), (z7, .inl (cI, 128, .inl B.2.2.1)), (z8, .inl (cI, 128, .inl B.2.2.2.1)), (z9, .inl (cI, 64, .inl td))]) (own := RX3) (nL := 4) [] [0, 1, 2, 3, 4, 5, 6, 7, 8, 9] [.int c0, .int 0, .int 1000] (mX3_in l D cI  c0 0 1000) ⟨hx, hb, hml, hown, hts⟩ (va_cwS 3 hts gX3_wouldPress_X3_in rfl rfl rfl (by decide +kernel) ⟨by dsimp only [pq_R]; omega, by dsimp only [pq_R]; omega⟩) pq_bl0 (fun _ _ _ => trivial) hK hP hD hS hA rfl (by decide) rfl (by decide) (by decide) rfl hl.1 rfl (Nat.le_of_ble_eq_true rfl) dX3_wouldPress_24 ⟨by dsimp only [pq_R]; omega, by dsimp only [pq_R]; omega⟩ (fun v w1 H locs hq hP hD hS hz => ?_)
      obtain ⟨rfl, rfl⟩ := hq
      have hP : va_P D vwCl [(mo, .inr (3, [.int col, .ref z1, .ref z2, .ref z3, .ref z4, .ref z5, .ref z6, .ref z7, .ref z8, .ref z9, .int lf, .int B.2.2.2.2.1, .int B.2.2.2.2.2.1, .int B.2.2.2.2.2.2, .int laid, .int piled, .int prs, .int thr])), (z1, .inl (cI, 64, .inl hs)), (z2, .inl (cI, 64, .inl cs)), (z3, .inl (cI, 128, .inl fi)), (z4, .inl (cI, 128, .inl la)), (z5, .inl (cI, 128, .inl B.1)), (z6, .inl (cI, 128, .inl B.2.1)), (z7, .inl (cI, 128, .inl B.2.2.1)), (z8, .inl (cI, 128, .inl B.2.2.2.1)), (z9, .inl (cI, 64, .inl td))] H := hP
      have hD : va_D A [(mo, .inr (3, [.int col, .ref z1, .ref z2, .ref z3, .ref z4, .ref z5, .ref z6, .ref z7, .ref z8, .ref z9, .int lf, .int B.2.2.2.2.1, .int B.2.2.2.2.2.1, .int B.2.2.2.2.2.2, .int laid, .int piled, .int prs, .int thr])), (z1, .inl (cI, 64, .inl hs)), (z2, .inl (cI, 64, .inl cs)), (z3, .inl (cI, 128, .inl fi)), (z4, .inl (cI, 128, .inl la)), (z5, .inl (cI, 128, .inl B.1)), (z6, .inl (cI, 128, .inl B.2.1)), (z7, .inl (cI, 128, .inl B.2.2.1)), (z8, .inl (cI, 128, .inl B.2.2.2.1)), (z9, .inl (cI, 64, .inl td))] := hD
      by_cases b_6 : ¬ bRng c0 0 1000
      · rw [if_pos b_6]
        refine W.eq (g2 := F0 m 27 ls [.int 1, .ref mo]) rfl ?_
        refine lv_if_ne (tgt := 34) hx hb dX3_wouldPress_27 (by decide) (fun _ => ?_) (fun c9 => absurd c9 (by decide))
        refine lv_iconst (v := 0) hx hb dX3_wouldPress_34 (by decide) ?_
        refine pq_callV (wr := []) (own := RX3) (nL := 4) (q0 := 0) (ci := 3) [0, 1, 2, 3, 4, 5, 6, 7, 8, 9] [] [.int 0] (mX3_isFine l D cI mo z1 z2 z3 z4 z5 z6 z7 z8 z9 col hs cs fi la B td lf laid piled prs thr 0) ⟨hx, hb, hml, hown, hts⟩ (cwV 1 hts gX3_wouldPress_X3_isFine rfl rfl rfl (by decide +kernel) ⟨by dsimp only [pq_R]; omega, by dsimp only [pq_R]; omega⟩) pq_bl0 (fun _ _ _ => trivial) hK hP hD hS hA rfl (by decide) rfl (by decide) (by decide) rfl rfl rfl rfl hl.1 rfl (Nat.le_of_ble_eq_true rfl) dX3_wouldPress_35 ⟨by dsimp only [pq_R]; omega, by dsimp only [pq_R]; omega⟩ (fun v w1 H locs hq hP hD hS hz => ?_)
        obtain ⟨rfl, rfl⟩ := hq
        rw [if_pos rfl]
        have hP : va_P D vwCl [(mo, .inr (3, [.int col, .ref z1, .ref z2, .ref z3, .ref z4, .ref z5, .ref z6, .ref z7, .ref z8, .ref z9, .int lf, .int B.2.2.2.2.1, .int B.2.2.2.2.2.1, .int B.2.2.2.2.2.2, .int laid, .int piled, .int prs, .int 0])), (z1, .inl (cI, 64, .inl hs)), (z2, .inl (cI, 64, .inl cs)), (z3, .inl (cI, 128, .inl fi)), (z4, .inl (cI, 128, .inl la)), (z5, .inl (cI, 128, .inl B.1)), (z6, .inl (cI, 128, .inl B.2.1)), (z7, .inl (cI, 128, .inl B.2.2.1)), (z8, .inl (cI, 128, .inl B.2.2.2.1)), (z9, .inl (cI, 64, .inl td))] H := hP
        have hD : va_D A [(mo, .inr (3, [.int col, .ref z1, .ref z2, .ref z3, .ref z4, .ref z5, .ref z6, .ref z7, .ref z8, .ref z9, .int lf, .int B.2.2.2.2.1, .int B.2.2.2.2.2.1, .int B.2.2.2.2.2.2, .int laid, .int piled, .int prs, .int 0])), (z1, .inl (cI, 64, .inl hs)), (z2, .inl (cI, 64, .inl cs)), (z3, .inl (cI, 128, .inl fi)), (z4, .inl (cI, 128, .inl la)), (z5, .inl (cI, 128, .inl B.1)), (z6, .inl (cI, 128, .inl B.2.1)), (z7, .inl (cI, 128, .inl B.2.2.1)), (z8, .inl (cI, 128, .inl B.2.2.2.1)), (z9, .inl (cI, 64, .inl td))] := hD
        refine W.eq (g2 := F0 m 38 ls [.int 1]) rfl ?_
        refine lv_if_eq (tgt := 51) hx hb dX3_wouldPress_38 (by decide) (fun c9 => absurd c9 (by decide)) (fun _ => ?_)
        have hnsp : nSp col x y := ⟨b_2, c_3⟩
        obtain ⟨kf, kt, hft, htN, rfl, rfl⟩ := spN hnsp hN hN2
        refine lv_aload_n hx hb dX3_wouldPress_41 rfl (lv_at hl 0 rfl) ?_
        refine lv_iload_n hx hb dX3_wouldPress_42 rfl (lv_at hl 1 rfl) ?_
        refine lv_iload_n hx hb dX3_wouldPress_43 rfl (lv_at hl 2 rfl) ?_
        refine lv_iload_n hx hb dX3_wouldPress_44 rfl (lv_at hl 3 rfl) ?_
        refine pq_callV (wr := []) (own := RX3) (nL := 4) (q0 := 0) (ci := 3) [0, 1, 2, 3, 4, 5, 6, 7, 8, 9] [] [.int (nI kf), .int (nI kt), .int c0] (mX3_presses l D cI mo z1 z2 z3 z4 z5 z6 z7 z8 z9 col hs cs fi la B td lf laid piled prs 0 kf kt c0 (by omega) (by omega)) ⟨hx, hb, hml, hown, hts⟩ (cwV 3 hts gX3_wouldPress_X3_presses rfl rfl rfl (by decide +kernel) ⟨by dsimp only [pq_R]; omega, by dsimp only [pq_R]; omega⟩) pq_bl0 (fun _ _ _ => trivial) hK hP hD hS hA rfl (by decide) rfl (by decide) (by decide) rfl rfl rfl rfl hl.1 rfl (Nat.le_of_ble_eq_true rfl) dX3_wouldPress_45 ⟨by dsimp only [pq_R]; omega, by dsimp only [pq_R]; omega⟩ (fun v w1 H locs hq hP hD hS hz => ?_)
        obtain ⟨rfl, rfl⟩ := hq
        have hP : va_P D vwCl [(mo, .inr (3, [.int col, .ref z1, .ref z2, .ref z3, .ref z4, .ref z5, .ref z6, .ref z7, .ref z8, .ref z9, .int lf, .int B.2.2.2.2.1, .int B.2.2.2.2.2.1, .int B.2.2.2.2.2.2, .int laid, .int piled, .int prs, .int 0])), (z1, .inl (cI, 64, .inl hs)), (z2, .inl (cI, 64, .inl cs)), (z3, .inl (cI, 128, .inl fi)), (z4, .inl (cI, 128, .inl la)), (z5, .inl (cI, 128, .inl B.1)), (z6, .inl (cI, 128, .inl B.2.1)), (z7, .inl (cI, 128, .inl B.2.2.1)), (z8, .inl (cI, 128, .inl B.2.2.2.1)), (z9, .inl (cI, 64, .inl td))] H := hP
        have hD : va_D A [(mo, .inr (3, [.int col, .ref z1, .ref z2, .ref z3, .ref z4, .ref z5, .ref z6, .ref z7, .ref z8, .ref z9, .int lf, .int B.2.2.2.2.1, .int B.2.2.2.2.2.1, .int B.2.2.2.2.2.2, .int laid, .int piled, .int prs, .int 0])), (z1, .inl (cI, 64, .inl hs)), (z2, .inl (cI, 64, .inl cs)), (z3, .inl (cI, 128, .inl fi)), (z4, .inl (cI, 128, .inl la)), (z5, .inl (cI, 128, .inl B.1)), (z6, .inl (cI, 128, .inl B.2.1)), (z7, .inl (cI, 128, .inl B.2.2.1)), (z8, .inl (cI, 128, .inl B.2.2.2.1)), (z9, .inl (cI, 64, .inl td))] := hD
        refine W.eq (g2 := F0 m 48 ls [.int (mAbove hs kf (kt + 1 - kf) c0)]) rfl ?_
        refine lv_goto (tgt := 52) hx hb dX3_wouldPress_48 (by decide) ?_
        exact pq_iret hQ hx hb hr hlocks hK hS hP hD dX3_wouldPress_52 (by omega) (by omega) (Or.inr ⟨kf, kt, rfl, rfl, hft, htN, rfl, rfl, cl_low hnsp b_6⟩)
      · rw [if_neg b_6]
        refine W.eq (g2 := F0 m 27 ls [.int 0, .ref mo]) rfl ?_
        refine lv_if_ne (tgt := 34) hx hb dX3_wouldPress_27 (by decide) (fun c9 => absurd c9 (by decide)) (fun _ => ?_)
        refine lv_iconst (v := 2) hx hb dX3_wouldPress_30 (by decide) ?_
        refine lv_goto (tgt := 35) hx hb dX3_wouldPress_31 (by decide) ?_
        refine pq_callV (wr := []) (own := RX3) (nL := 4) (q0 := 0) (ci := 3) [0, 1, 2, 3, 4, 5, 6, 7, 8, 9] [] [.int 2] (mX3_isFine l D cI mo z1 z2 z3 z4 z5 z6 z7 z8 z9 col hs cs fi la B td lf laid piled prs thr 2) ⟨hx, hb, hml, hown, hts⟩ (cwV 1 hts gX3_wouldPress_X3_isFine rfl rfl rfl (by decide +kernel) ⟨by dsimp only [pq_R]; omega, by dsimp only [pq_R]; omega⟩) pq_bl0 (fun _ _ _ => trivial) hK hP hD hS hA rfl (by decide) rfl (by decide) (by decide) rfl rfl rfl rfl hl.1 rfl (Nat.le_of_ble_eq_true rfl) dX3_wouldPress_35 ⟨by dsimp only [pq_R]; omega, by dsimp only [pq_R]; omega⟩ (fun v w1 H locs hq hP hD hS hz => ?_)
        obtain ⟨rfl, rfl⟩ := hq
        rw [if_neg (show ¬ (2 : Int32) = 0 by decide)]
        have hP : va_P D vwCl [(mo, .inr (3, [.int col, .ref z1, .ref z2, .ref z3, .ref z4, .ref z5, .ref z6, .ref z7, .ref z8, .ref z9, .int lf, .int B.2.2.2.2.1, .int B.2.2.2.2.2.1, .int B.2.2.2.2.2.2, .int laid, .int piled, .int prs, .int 2])), (z1, .inl (cI, 64, .inl hs)), (z2, .inl (cI, 64, .inl cs)), (z3, .inl (cI, 128, .inl fi)), (z4, .inl (cI, 128, .inl la)), (z5, .inl (cI, 128, .inl B.1)), (z6, .inl (cI, 128, .inl B.2.1)), (z7, .inl (cI, 128, .inl B.2.2.1)), (z8, .inl (cI, 128, .inl B.2.2.2.1)), (z9, .inl (cI, 64, .inl td))] H := hP
        have hD : va_D A [(mo, .inr (3, [.int col, .ref z1, .ref z2, .ref z3, .ref z4, .ref z5, .ref z6, .ref z7, .ref z8, .ref z9, .int lf, .int B.2.2.2.2.1, .int B.2.2.2.2.2.1, .int B.2.2.2.2.2.2, .int laid, .int piled, .int prs, .int 2])), (z1, .inl (cI, 64, .inl hs)), (z2, .inl (cI, 64, .inl cs)), (z3, .inl (cI, 128, .inl fi)), (z4, .inl (cI, 128, .inl la)), (z5, .inl (cI, 128, .inl B.1)), (z6, .inl (cI, 128, .inl B.2.1)), (z7, .inl (cI, 128, .inl B.2.2.1)), (z8, .inl (cI, 128, .inl B.2.2.2.1)), (z9, .inl (cI, 64, .inl td))] := hD
        refine W.eq (g2 := F0 m 38 ls [.int 0]) rfl ?_
        refine lv_if_eq (tgt := 51) hx hb dX3_wouldPress_38 (by decide) (fun _ => ?_) (fun c9 => absurd c9 (by decide))
        refine lv_iconst (v := 0) hx hb dX3_wouldPress_51 (by decide) ?_
        exact pq_iret hQ hx hb hr hlocks hK hS hP hD dX3_wouldPress_52 (by omega) (by omega) (by have hcd : cLow col x y c0 0 1000 = 2 := (by rw [cLow, if_neg b_2, if_pos (Or.inr (Classical.not_not.mp b_6))]); exact Or.inl ⟨by rw [hcd]; decide, rfl, by rw [hcd] <;> rfl⟩)
  · rw [if_neg b_2]
    refine W.eq (g2 := F0 m 7 ls [.int 0, .ref mo]) rfl ?_
    refine lv_if_ne (tgt := 14) hx hb dX3_wouldPress_7 (by decide) (fun c9 => absurd c9 (by decide)) (fun _ => ?_)
    refine lv_iconst (v := 1) hx hb dX3_wouldPress_10 (by decide) ?_
    refine lv_goto (tgt := 35) hx hb dX3_wouldPress_11 (by decide) ?_
    refine pq_callV (wr := []) (own := RX3) (nL := 4) (q0 := 0) (ci := 3) [0, 1, 2, 3, 4, 5, 6, 7, 8, 9] [] [.int 1] (mX3_isFine l D cI mo z1 z2 z3 z4 z5 z6 z7 z8 z9 col hs cs fi la B td lf laid piled prs thr 1) ⟨hx, hb, hml, hown, hts⟩ (cwV 1 hts gX3_wouldPress_X3_isFine rfl rfl rfl (by decide +kernel) ⟨by dsimp only [pq_R]; omega, by dsimp only [pq_R]; omega⟩) pq_bl0 (fun _ _ _ => trivial) hK hP hD hS hA rfl (by decide) rfl (by decide) (by decide) rfl rfl rfl rfl hl.1 rfl (Nat.le_of_ble_eq_true rfl) dX3_wouldPress_35 ⟨by dsimp only [pq_R]; omega, by dsimp only [pq_R]; omega⟩ (fun v w1 H locs hq hP hD hS hz => ?_)
    obtain ⟨rfl, rfl⟩ := hq
    rw [if_neg (show ¬ (1 : Int32) = 0 by decide)]
    have hP : va_P D vwCl [(mo, .inr (3, [.int col, .ref z1, .ref z2, .ref z3, .ref z4, .ref z5, .ref z6, .ref z7, .ref z8, .ref z9, .int lf, .int B.2.2.2.2.1, .int B.2.2.2.2.2.1, .int B.2.2.2.2.2.2, .int laid, .int piled, .int prs, .int 1])), (z1, .inl (cI, 64, .inl hs)), (z2, .inl (cI, 64, .inl cs)), (z3, .inl (cI, 128, .inl fi)), (z4, .inl (cI, 128, .inl la)), (z5, .inl (cI, 128, .inl B.1)), (z6, .inl (cI, 128, .inl B.2.1)), (z7, .inl (cI, 128, .inl B.2.2.1)), (z8, .inl (cI, 128, .inl B.2.2.2.1)), (z9, .inl (cI, 64, .inl td))] H := hP
    have hD : va_D A [(mo, .inr (3, [.int col, .ref z1, .ref z2, .ref z3, .ref z4, .ref z5, .ref z6, .ref z7, .ref z8, .ref z9, .int lf, .int B.2.2.2.2.1, .int B.2.2.2.2.2.1, .int B.2.2.2.2.2.2, .int laid, .int piled, .int prs, .int 1])), (z1, .inl (cI, 64, .inl hs)), (z2, .inl (cI, 64, .inl cs)), (z3, .inl (cI, 128, .inl fi)), (z4, .inl (cI, 128, .inl la)), (z5, .inl (cI, 128, .inl B.1)), (z6, .inl (cI, 128, .inl B.2.1)), (z7, .inl (cI, 128, .inl B.2.2.1)), (z8, .inl (cI, 128, .inl B.2.2.2.1)), (z9, .inl (cI, 64, .inl td))] := hD
    refine W.eq (g2 := F0 m 38 ls [.int 0]) rfl ?_
    refine lv_if_eq (tgt := 51) hx hb dX3_wouldPress_38 (by decide) (fun _ => ?_) (fun c9 => absurd c9 (by decide))
    refine lv_iconst (v := 0) hx hb dX3_wouldPress_51 (by decide) ?_
    exact pq_iret hQ hx hb hr hlocks hK hS hP hD dX3_wouldPress_52 (by omega) (by omega) (by have hcd : cLow col x y c0 0 1000 = 1 := (by rw [cLow, if_pos (Classical.not_not.mp b_2)]); exact Or.inl ⟨by rw [hcd]; decide, rfl, by rw [hcd] <;> rfl⟩)

set_option maxHeartbeats 4000000 in
set_option maxRecDepth 100000 in
theorem mX3_ceilingFor (l : Launch) (D : va_G) (cI : ClassId) (mo z1 z2 z3 z4 z5 z6 z7 z8 z9 : Nat) (col : Int32) (hs cs fi la : Nat → Int32) (B : BK) (td : Nat → Int32) (lf laid piled prs thr : Int32) (x y w0 : Int32) (N : Nat) (hN : col = nI N) (hN1 : 1 ≤ N) (hN2 : N ≤ 64) : pq_M l yX3_ceilingFor wsX3_ceilingFor 3 65 0 0 D [(cI, .int)] pq_0 (mdW mo z1 z2 z3 z4 z5 z6 z7 z8 z9 cI col hs cs fi la B td lf laid piled prs thr) [.ref mo, .int x, .int y, .int w0] (fun v w1 => (mFor col hs x y w0 ≠ 0 ∧ v = some (.int 0) ∧ w1 = mdW mo z1 z2 z3 z4 z5 z6 z7 z8 z9 cI col hs cs fi la B td lf laid piled prs (mFor col hs x y w0)) ∨ (∃ kf kt, x = nI kf ∧ y = nI kt ∧ kf ≤ kt ∧ kt < N ∧ v = some (.int (nI (mSeek (mAbove hs kf (kt + 1 - kf)) w0 1000))) ∧ w1 = mdW mo z1 z2 z3 z4 z5 z6 z7 z8 z9 cI col hs cs fi la B td lf laid piled prs 0 ∧ mFor col hs x y w0 = 0)) := by
  refine pq_enter (cc := cX3_ceilingFor) (maxL := 5) (ret := (some .int)) (by decide) rfl (Nat.le_of_ble_eq_true rfl) ?_
  intro p ev s m args below meth cd A ls Q H locs hx hb hr hml hts hown hlocks hnm hK hP hD hS hA hE hl hQ
  have hl : lv_has ls 5 [(0, .ref mo), (1, .int x), (2, .int y), (3, .int w0)] := hl
  have hP : va_P D vwCl [(mo, .inr (3, [.int col, .ref z1, .ref z2, .ref z3, .ref z4, .ref z5, .ref z6, .ref z7, .ref z8, .ref z9, .int lf, .int B.2.2.2.2.1, .int B.2.2.2.2.2.1, .int B.2.2.2.2.2.2, .int laid, .int piled, .int prs, .int thr])), (z1, .inl (cI, 64, .inl hs)), (z2, .inl (cI, 64, .inl cs)), (z3, .inl (cI, 128, .inl fi)), (z4, .inl (cI, 128, .inl la)), (z5, .inl (cI, 128, .inl B.1)), (z6, .inl (cI, 128, .inl B.2.1)), (z7, .inl (cI, 128, .inl B.2.2.1)), (z8, .inl (cI, 128, .inl B.2.2.2.1)), (z9, .inl (cI, 64, .inl td))] H := hP
  have hD : va_D A [(mo, .inr (3, [.int col, .ref z1, .ref z2, .ref z3, .ref z4, .ref z5, .ref z6, .ref z7, .ref z8, .ref z9, .int lf, .int B.2.2.2.2.1, .int B.2.2.2.2.2.1, .int B.2.2.2.2.2.2, .int laid, .int piled, .int prs, .int thr])), (z1, .inl (cI, 64, .inl hs)), (z2, .inl (cI, 64, .inl cs)), (z3, .inl (cI, 128, .inl fi)), (z4, .inl (cI, 128, .inl la)), (z5, .inl (cI, 128, .inl B.1)), (z6, .inl (cI, 128, .inl B.2.1)), (z7, .inl (cI, 128, .inl B.2.2.1)), (z8, .inl (cI, 128, .inl B.2.2.2.1)), (z9, .inl (cI, 64, .inl td))] := hD
  refine lv_aload_n hx hb dX3_ceilingFor_0 rfl (lv_at hl 0 rfl) ?_
  refine lv_aload_n hx hb dX3_ceilingFor_1 rfl (lv_at hl 0 rfl) ?_
  refine lv_iload_n hx hb dX3_ceilingFor_2 rfl (lv_at hl 1 rfl) ?_
  refine lv_iload_n hx hb dX3_ceilingFor_3 rfl (lv_at hl 2 rfl) ?_
  refine pq_callV (wr := []) (own := RX3) (nL := 5) (q0 := 0) (ci := 3) [0, 1, 2, 3, 4, 5, 6, 7, 8, 9] [] [.int x, .int y] (mX3_isRange l D cI mo z1 z2 z3 z4 z5 z6 z7 z8 z9 col hs cs fi la B td lf laid piled prs thr x y N hN hN1 hN2) ⟨hx, hb, hml, hown, hts⟩ (cwV 2 hts gX3_ceilingFor_X3_isRange rfl rfl rfl (by decide +kernel) ⟨by dsimp only [pq_R]; omega, by dsimp only [pq_R]; omega⟩) pq_bl0 (fun _ _ _ => trivial) hK hP hD hS hA rfl (by decide) rfl (by decide) (by decide) rfl rfl rfl rfl hl.1 rfl (Nat.le_of_ble_eq_true rfl) dX3_ceilingFor_4 ⟨by dsimp only [pq_R]; omega, by dsimp only [pq_R]; omega⟩ (fun v w1 H locs hq hP hD hS hz => ?_)
  obtain ⟨rfl, rfl⟩ := hq
  have hP : va_P D vwCl [(mo, .inr (3, [.int col, .ref z1, .ref z2, .ref z3, .ref z4, .ref z5, .ref z6, .ref z7, .ref z8, .ref z9, .int lf, .int B.2.2.2.2.1, .int B.2.2.2.2.2.1, .int B.2.2.2.2.2.2, .int laid, .int piled, .int prs, .int thr])), (z1, .inl (cI, 64, .inl hs)), (z2, .inl (cI, 64, .inl cs)), (z3, .inl (cI, 128, .inl fi)), (z4, .inl (cI, 128, .inl la)), (z5, .inl (cI, 128, .inl B.1)), (z6, .inl (cI, 128, .inl B.2.1)), (z7, .inl (cI, 128, .inl B.2.2.1)), (z8, .inl (cI, 128, .inl B.2.2.2.1)), (z9, .inl (cI, 64, .inl td))] H := hP
  have hD : va_D A [(mo, .inr (3, [.int col, .ref z1, .ref z2, .ref z3, .ref z4, .ref z5, .ref z6, .ref z7, .ref z8, .ref z9, .int lf, .int B.2.2.2.2.1, .int B.2.2.2.2.2.1, .int B.2.2.2.2.2.2, .int laid, .int piled, .int prs, .int thr])), (z1, .inl (cI, 64, .inl hs)), (z2, .inl (cI, 64, .inl cs)), (z3, .inl (cI, 128, .inl fi)), (z4, .inl (cI, 128, .inl la)), (z5, .inl (cI, 128, .inl B.1)), (z6, .inl (cI, 128, .inl B.2.1)), (z7, .inl (cI, 128, .inl B.2.2.1)), (z8, .inl (cI, 128, .inl B.2.2.2.1)), (z9, .inl (cI, 64, .inl td))] := hD
  by_cases b_2 : ¬ (bCol col x ∨ bCol col y)
  · rw [if_pos b_2]
    refine W.eq (g2 := F0 m 7 ls [.int 1, .ref mo]) rfl ?_
    refine lv_if_ne (tgt := 14) hx hb dX3_ceilingFor_7 (by decide) (fun _ => ?_) (fun c9 => absurd c9 (by decide))
    refine lv_iload_n hx hb dX3_ceilingFor_14 rfl (lv_at hl 2 rfl) ?_
    refine lv_iload_n hx hb dX3_ceilingFor_15 rfl (lv_at hl 1 rfl) ?_
    refine lv_icmp_lt (tgt := 29) hx hb dX3_ceilingFor_16 (by decide) (fun c_3 => ?_) (fun c_3 => ?_)
    · refine lv_iconst (v := 2) hx hb dX3_ceilingFor_29 (by decide) ?_
      refine lv_goto (tgt := 34) hx hb dX3_ceilingFor_30 (by decide) ?_
      refine pq_callV (wr := []) (own := RX3) (nL := 5) (q0 := 0) (ci := 3) [0, 1, 2, 3, 4, 5, 6, 7, 8, 9] [] [.int 2] (mX3_isFine l D cI mo z1 z2 z3 z4 z5 z6 z7 z8 z9 col hs cs fi la B td lf laid piled prs thr 2) ⟨hx, hb, hml, hown, hts⟩ (cwV 1 hts gX3_ceilingFor_X3_isFine rfl rfl rfl (by decide +kernel) ⟨by dsimp only [pq_R]; omega, by dsimp only [pq_R]; omega⟩) pq_bl0 (fun _ _ _ => trivial) hK hP hD hS hA rfl (by decide) rfl (by decide) (by decide) rfl rfl rfl rfl hl.1 rfl (Nat.le_of_ble_eq_true rfl) dX3_ceilingFor_34 ⟨by dsimp only [pq_R]; omega, by dsimp only [pq_R]; omega⟩ (fun v w1 H locs hq hP hD hS hz => ?_)
      obtain ⟨rfl, rfl⟩ := hq
      rw [if_neg (show ¬ (2 : Int32) = 0 by decide)]
      have hP : va_P D vwCl [(mo, .inr (3, [.int col, .ref z1, .ref z2, .ref z3, .ref z4, .ref z5, .ref z6, .ref z7, .ref z8, .ref z9, .int lf, .int B.2.2.2.2.1, .int B.2.2.2.2.2.1, .int B.2.2.2.2.2.2, .int laid, .int piled, .int prs, .int 2])), (z1, .inl (cI, 64, .inl hs)), (z2, .inl (cI, 64, .inl cs)), (z3, .inl (cI, 128, .inl fi)), (z4, .inl (cI, 128, .inl la)), (z5, .inl (cI, 128, .inl B.1)), (z6, .inl (cI, 128, .inl B.2.1)), (z7, .inl (cI, 128, .inl B.2.2.1)), (z8, .inl (cI, 128, .inl B.2.2.2.1)), (z9, .inl (cI, 64, .inl td))] H := hP
      have hD : va_D A [(mo, .inr (3, [.int col, .ref z1, .ref z2, .ref z3, .ref z4, .ref z5, .ref z6, .ref z7, .ref z8, .ref z9, .int lf, .int B.2.2.2.2.1, .int B.2.2.2.2.2.1, .int B.2.2.2.2.2.2, .int laid, .int piled, .int prs, .int 2])), (z1, .inl (cI, 64, .inl hs)), (z2, .inl (cI, 64, .inl cs)), (z3, .inl (cI, 128, .inl fi)), (z4, .inl (cI, 128, .inl la)), (z5, .inl (cI, 128, .inl B.1)), (z6, .inl (cI, 128, .inl B.2.1)), (z7, .inl (cI, 128, .inl B.2.2.1)), (z8, .inl (cI, 128, .inl B.2.2.2.1)), (z9, .inl (cI, 64, .inl td))] := hD
      refine W.eq (g2 := F0 m 37 ls [.int 0]) rfl ?_
      refine lv_if_ne (tgt := 42) hx hb dX3_ceilingFor_37 (by decide) (fun c9 => absurd c9 (by decide)) (fun _ => ?_)
      refine lv_iconst (v := 0) hx hb dX3_ceilingFor_40 (by decide) ?_
      exact pq_iret hQ hx hb hr hlocks hK hS hP hD dX3_ceilingFor_41 (by omega) (by omega) (by have hcd : mFor col hs x y w0 = 2 := (by rw [mFor, if_neg b_2, if_pos (Or.inl c_3)]); exact Or.inl ⟨by rw [hcd]; decide, rfl, by rw [hcd] <;> rfl⟩)
    · refine lv_iload_n hx hb dX3_ceilingFor_19 rfl (lv_at hl 3 rfl) ?_
      refine lv_iconst (v := 1) hx hb dX3_ceilingFor_20 (by decide) ?_
      refine lv_ldc (v := 64000) hx hb hown (hts (.constant RX3 112 (64000)) (by decide +kernel)) dX3_ceilingFor_21 ?_
      refine pq_callS (wr := [(mo, .inr (3, [.int col, .ref z1, .ref z2, .ref z3, .ref z4, .ref z5, .ref z6, .ref z7, .ref z8, .ref z9, .int lf, .int B.2.2.2.2.1, .int B.2.2.2.2.2.1, .int B.2.2.2.2.2.2, .int laid, .int piled, .int prs, .int thr])), (z1, .inl (cI, 64, .inl hs)), (z2, .inl (cI, 64, .inl cs)), (z3, .inl (cI, 128, .inl fi)), (z4, .inl (cI, 128, .inl la)), (z5, .inl (cI, 128, .inl B.1)), (z6, .inl (cI, 128, .inl B.2.1)), (z7, .inl (cI, 128, .inl B.2.2.1)), (z8, .inl (cI, 128, .inl B.2.2.2.1)), (z9, .inl (cI, 64, .inl td))]) (own := RX3) (nL := 5) [] [0, 1, 2, 3, 4, 5, 6, 7, 8, 9] [.int w0, .int 1, .int 64000] (mX3_in l D cI  w0 1 64000) ⟨hx, hb, hml, hown, hts⟩ (va_cwS 3 hts gX3_ceilingFor_X3_in rfl rfl rfl (by decide +kernel) ⟨by dsimp only [pq_R]; omega, by dsimp only [pq_R]; omega⟩) pq_bl0 (fun _ _ _ => trivial) hK hP hD hS hA rfl (by decide) rfl (by decide) (by decide) rfl hl.1 rfl (Nat.le_of_ble_eq_true rfl) dX3_ceilingFor_23 ⟨by dsimp only [pq_R]; omega, by dsimp only [pq_R]; omega⟩ (fun v w1 H locs hq hP hD hS hz => ?_)
      obtain ⟨rfl, rfl⟩ := hq
      have hP : va_P D vwCl [(mo, .inr (3, [.int col, .ref z1, .ref z2, .ref z3, .ref z4, .ref z5, .ref z6, .ref z7, .ref z8, .ref z9, .int lf, .int B.2.2.2.2.1, .int B.2.2.2.2.2.1, .int B.2.2.2.2.2.2, .int laid, .int piled, .int prs, .int thr])), (z1, .inl (cI, 64, .inl hs)), (z2, .inl (cI, 64, .inl cs)), (z3, .inl (cI, 128, .inl fi)), (z4, .inl (cI, 128, .inl la)), (z5, .inl (cI, 128, .inl B.1)), (z6, .inl (cI, 128, .inl B.2.1)), (z7, .inl (cI, 128, .inl B.2.2.1)), (z8, .inl (cI, 128, .inl B.2.2.2.1)), (z9, .inl (cI, 64, .inl td))] H := hP
      have hD : va_D A [(mo, .inr (3, [.int col, .ref z1, .ref z2, .ref z3, .ref z4, .ref z5, .ref z6, .ref z7, .ref z8, .ref z9, .int lf, .int B.2.2.2.2.1, .int B.2.2.2.2.2.1, .int B.2.2.2.2.2.2, .int laid, .int piled, .int prs, .int thr])), (z1, .inl (cI, 64, .inl hs)), (z2, .inl (cI, 64, .inl cs)), (z3, .inl (cI, 128, .inl fi)), (z4, .inl (cI, 128, .inl la)), (z5, .inl (cI, 128, .inl B.1)), (z6, .inl (cI, 128, .inl B.2.1)), (z7, .inl (cI, 128, .inl B.2.2.1)), (z8, .inl (cI, 128, .inl B.2.2.2.1)), (z9, .inl (cI, 64, .inl td))] := hD
      by_cases b_6 : ¬ bRng w0 1 64000
      · rw [if_pos b_6]
        refine W.eq (g2 := F0 m 26 ls [.int 1, .ref mo]) rfl ?_
        refine lv_if_ne (tgt := 33) hx hb dX3_ceilingFor_26 (by decide) (fun _ => ?_) (fun c9 => absurd c9 (by decide))
        refine lv_iconst (v := 0) hx hb dX3_ceilingFor_33 (by decide) ?_
        refine pq_callV (wr := []) (own := RX3) (nL := 5) (q0 := 0) (ci := 3) [0, 1, 2, 3, 4, 5, 6, 7, 8, 9] [] [.int 0] (mX3_isFine l D cI mo z1 z2 z3 z4 z5 z6 z7 z8 z9 col hs cs fi la B td lf laid piled prs thr 0) ⟨hx, hb, hml, hown, hts⟩ (cwV 1 hts gX3_ceilingFor_X3_isFine rfl rfl rfl (by decide +kernel) ⟨by dsimp only [pq_R]; omega, by dsimp only [pq_R]; omega⟩) pq_bl0 (fun _ _ _ => trivial) hK hP hD hS hA rfl (by decide) rfl (by decide) (by decide) rfl rfl rfl rfl hl.1 rfl (Nat.le_of_ble_eq_true rfl) dX3_ceilingFor_34 ⟨by dsimp only [pq_R]; omega, by dsimp only [pq_R]; omega⟩ (fun v w1 H locs hq hP hD hS hz => ?_)
        obtain ⟨rfl, rfl⟩ := hq
        rw [if_pos rfl]
        have hP : va_P D vwCl [(mo, .inr (3, [.int col, .ref z1, .ref z2, .ref z3, .ref z4, .ref z5, .ref z6, .ref z7, .ref z8, .ref z9, .int lf, .int B.2.2.2.2.1, .int B.2.2.2.2.2.1, .int B.2.2.2.2.2.2, .int laid, .int piled, .int prs, .int 0])), (z1, .inl (cI, 64, .inl hs)), (z2, .inl (cI, 64, .inl cs)), (z3, .inl (cI, 128, .inl fi)), (z4, .inl (cI, 128, .inl la)), (z5, .inl (cI, 128, .inl B.1)), (z6, .inl (cI, 128, .inl B.2.1)), (z7, .inl (cI, 128, .inl B.2.2.1)), (z8, .inl (cI, 128, .inl B.2.2.2.1)), (z9, .inl (cI, 64, .inl td))] H := hP
        have hD : va_D A [(mo, .inr (3, [.int col, .ref z1, .ref z2, .ref z3, .ref z4, .ref z5, .ref z6, .ref z7, .ref z8, .ref z9, .int lf, .int B.2.2.2.2.1, .int B.2.2.2.2.2.1, .int B.2.2.2.2.2.2, .int laid, .int piled, .int prs, .int 0])), (z1, .inl (cI, 64, .inl hs)), (z2, .inl (cI, 64, .inl cs)), (z3, .inl (cI, 128, .inl fi)), (z4, .inl (cI, 128, .inl la)), (z5, .inl (cI, 128, .inl B.1)), (z6, .inl (cI, 128, .inl B.2.1)), (z7, .inl (cI, 128, .inl B.2.2.1)), (z8, .inl (cI, 128, .inl B.2.2.2.1)), (z9, .inl (cI, 64, .inl td))] := hD
        refine W.eq (g2 := F0 m 37 ls [.int 1]) rfl ?_
        refine lv_if_ne (tgt := 42) hx hb dX3_ceilingFor_37 (by decide) (fun _ => ?_) (fun c9 => absurd c9 (by decide))
        have hnsp : nSp col x y := ⟨b_2, c_3⟩
        obtain ⟨kf, kt, hft, htN, rfl, rfl⟩ := spN hnsp hN hN2
        refine lv_aload_n hx hb dX3_ceilingFor_42 rfl (lv_at hl 0 rfl) ?_
        refine lv_aload_n hx hb dX3_ceilingFor_43 rfl (lv_at hl 0 rfl) ?_
        refine lv_iload_n hx hb dX3_ceilingFor_44 rfl (lv_at hl 1 rfl) ?_
        refine lv_iload_n hx hb dX3_ceilingFor_45 rfl (lv_at hl 2 rfl) ?_
        refine lv_iconst (v := 0) hx hb dX3_ceilingFor_46 (by decide) ?_
        refine pq_callV (wr := []) (own := RX3) (nL := 5) (q0 := 0) (ci := 3) [0, 1, 2, 3, 4, 5, 6, 7, 8, 9] [] [.int (nI kf), .int (nI kt), .int 0] (mX3_presses l D cI mo z1 z2 z3 z4 z5 z6 z7 z8 z9 col hs cs fi la B td lf laid piled prs 0 kf kt 0 (by omega) (by omega)) ⟨hx, hb, hml, hown, hts⟩ (cwV 3 hts gX3_ceilingFor_X3_presses rfl rfl rfl (by decide +kernel) ⟨by dsimp only [pq_R]; omega, by dsimp only [pq_R]; omega⟩) pq_bl0 (fun _ _ _ => trivial) hK hP hD hS hA rfl (by decide) rfl (by decide) (by decide) rfl rfl rfl rfl hl.1 rfl (Nat.le_of_ble_eq_true rfl) dX3_ceilingFor_47 ⟨by dsimp only [pq_R]; omega, by dsimp only [pq_R]; omega⟩ (fun v w1 H locs hq hP hD hS hz => ?_)
        obtain ⟨rfl, rfl⟩ := hq
        have hP : va_P D vwCl [(mo, .inr (3, [.int col, .ref z1, .ref z2, .ref z3, .ref z4, .ref z5, .ref z6, .ref z7, .ref z8, .ref z9, .int lf, .int B.2.2.2.2.1, .int B.2.2.2.2.2.1, .int B.2.2.2.2.2.2, .int laid, .int piled, .int prs, .int 0])), (z1, .inl (cI, 64, .inl hs)), (z2, .inl (cI, 64, .inl cs)), (z3, .inl (cI, 128, .inl fi)), (z4, .inl (cI, 128, .inl la)), (z5, .inl (cI, 128, .inl B.1)), (z6, .inl (cI, 128, .inl B.2.1)), (z7, .inl (cI, 128, .inl B.2.2.1)), (z8, .inl (cI, 128, .inl B.2.2.2.1)), (z9, .inl (cI, 64, .inl td))] H := hP
        have hD : va_D A [(mo, .inr (3, [.int col, .ref z1, .ref z2, .ref z3, .ref z4, .ref z5, .ref z6, .ref z7, .ref z8, .ref z9, .int lf, .int B.2.2.2.2.1, .int B.2.2.2.2.2.1, .int B.2.2.2.2.2.2, .int laid, .int piled, .int prs, .int 0])), (z1, .inl (cI, 64, .inl hs)), (z2, .inl (cI, 64, .inl cs)), (z3, .inl (cI, 128, .inl fi)), (z4, .inl (cI, 128, .inl la)), (z5, .inl (cI, 128, .inl B.1)), (z6, .inl (cI, 128, .inl B.2.1)), (z7, .inl (cI, 128, .inl B.2.2.1)), (z8, .inl (cI, 128, .inl B.2.2.2.1)), (z9, .inl (cI, 64, .inl td))] := hD
        refine W.eq (g2 := F0 m 50 ls [.int (mAbove hs kf (kt + 1 - kf) 0), .ref mo]) rfl ?_
        refine lv_iload_n hx hb dX3_ceilingFor_50 rfl (lv_at hl 3 rfl) ?_
        refine lv_icmp_ge (tgt := 58) hx hb dX3_ceilingFor_51 (by decide) (fun c_9 => ?_) (fun c_9 => ?_)
        · refine lv_iconst (v := 0) hx hb dX3_ceilingFor_58 (by decide) ?_
          refine pq_callV (wr := []) (own := RX3) (nL := 5) (q0 := 0) (ci := 3) [0, 1, 2, 3, 4, 5, 6, 7, 8, 9] [] [.int 0] (mX3_isFine l D cI mo z1 z2 z3 z4 z5 z6 z7 z8 z9 col hs cs fi la B td lf laid piled prs 0 0) ⟨hx, hb, hml, hown, hts⟩ (cwV 1 hts gX3_ceilingFor_X3_isFine rfl rfl rfl (by decide +kernel) ⟨by dsimp only [pq_R]; omega, by dsimp only [pq_R]; omega⟩) pq_bl0 (fun _ _ _ => trivial) hK hP hD hS hA rfl (by decide) rfl (by decide) (by decide) rfl rfl rfl rfl hl.1 rfl (Nat.le_of_ble_eq_true rfl) dX3_ceilingFor_59 ⟨by dsimp only [pq_R]; omega, by dsimp only [pq_R]; omega⟩ (fun v w1 H locs hq hP hD hS hz => ?_)
          obtain ⟨rfl, rfl⟩ := hq
          rw [if_pos rfl]
          have hP : va_P D vwCl [(mo, .inr (3, [.int col, .ref z1, .ref z2, .ref z3, .ref z4, .ref z5, .ref z6, .ref z7, .ref z8, .ref z9, .int lf, .int B.2.2.2.2.1, .int B.2.2.2.2.2.1, .int B.2.2.2.2.2.2, .int laid, .int piled, .int prs, .int 0])), (z1, .inl (cI, 64, .inl hs)), (z2, .inl (cI, 64, .inl cs)), (z3, .inl (cI, 128, .inl fi)), (z4, .inl (cI, 128, .inl la)), (z5, .inl (cI, 128, .inl B.1)), (z6, .inl (cI, 128, .inl B.2.1)), (z7, .inl (cI, 128, .inl B.2.2.1)), (z8, .inl (cI, 128, .inl B.2.2.2.1)), (z9, .inl (cI, 64, .inl td))] H := hP
          have hD : va_D A [(mo, .inr (3, [.int col, .ref z1, .ref z2, .ref z3, .ref z4, .ref z5, .ref z6, .ref z7, .ref z8, .ref z9, .int lf, .int B.2.2.2.2.1, .int B.2.2.2.2.2.1, .int B.2.2.2.2.2.2, .int laid, .int piled, .int prs, .int 0])), (z1, .inl (cI, 64, .inl hs)), (z2, .inl (cI, 64, .inl cs)), (z3, .inl (cI, 128, .inl fi)), (z4, .inl (cI, 128, .inl la)), (z5, .inl (cI, 128, .inl B.1)), (z6, .inl (cI, 128, .inl B.2.1)), (z7, .inl (cI, 128, .inl B.2.2.1)), (z8, .inl (cI, 128, .inl B.2.2.2.1)), (z9, .inl (cI, 64, .inl td))] := hD
          refine W.eq (g2 := F0 m 62 ls [.int 1]) rfl ?_
          refine lv_if_ne (tgt := 67) hx hb dX3_ceilingFor_62 (by decide) (fun _ => ?_) (fun c9 => absurd c9 (by decide))
          refine lv_sipush (v := 1000) hx hb dX3_ceilingFor_67 (by decide) ?_
          refine lv_istore (lv' := [(4, .int 1000), (0, .ref mo), (1, .int (nI kf)), (2, .int (nI kt)), (3, .int w0)]) hx hb dX3_ceilingFor_70 hl (by decide) rfl (fun ls hl => ?_)
          have LP : ∀ (n : Nat) (cc : Nat), cc < n → cc ≤ 1000 → mSeek (mAbove hs kf (kt + 1 - kf)) w0 cc = mSeek (mAbove hs kf (kt + 1 - kf)) w0 1000 → ∀ (H : Heap) (locs : List Loc) (ls : Array Slot), va_P D vwCl [(mo, .inr (3, [.int col, .ref z1, .ref z2, .ref z3, .ref z4, .ref z5, .ref z6, .ref z7, .ref z8, .ref z9, .int lf, .int B.2.2.2.2.1, .int B.2.2.2.2.2.1, .int B.2.2.2.2.2.2, .int laid, .int piled, .int prs, .int 0])), (z1, .inl (cI, 64, .inl hs)), (z2, .inl (cI, 64, .inl cs)), (z3, .inl (cI, 128, .inl fi)), (z4, .inl (cI, 128, .inl la)), (z5, .inl (cI, 128, .inl B.1)), (z6, .inl (cI, 128, .inl B.2.1)), (z7, .inl (cI, 128, .inl B.2.2.1)), (z8, .inl (cI, 128, .inl B.2.2.2.1)), (z9, .inl (cI, 64, .inl td))] H → va_D A [(mo, .inr (3, [.int col, .ref z1, .ref z2, .ref z3, .ref z4, .ref z5, .ref z6, .ref z7, .ref z8, .ref z9, .int lf, .int B.2.2.2.2.1, .int B.2.2.2.2.2.1, .int B.2.2.2.2.2.2, .int laid, .int piled, .int prs, .int 0])), (z1, .inl (cI, 64, .inl hs)), (z2, .inl (cI, 64, .inl cs)), (z3, .inl (cI, 128, .inl fi)), (z4, .inl (cI, 128, .inl la)), (z5, .inl (cI, 128, .inl B.1)), (z6, .inl (cI, 128, .inl B.2.1)), (z7, .inl (cI, 128, .inl B.2.2.1)), (z8, .inl (cI, 128, .inl B.2.2.2.1)), (z9, .inl (cI, 64, .inl td))] → va_S A s.heap H locs → lv_has ls 5 [(4, .int (nI cc)), (0, .ref mo), (1, .int (nI kf)), (2, .int (nI kt)), (3, .int w0)] → W p l ev (pq_R 3 65 0 0) s m args below meth cd H locs 0 0 Q (F0 m 72 ls []) := by
            intro n
            induction n with
            | zero => intro cc h1; exact absurd h1 (Nat.not_lt_zero _)
            | succ n ihLP =>
              intro cc hmeas h3 hrr H locs ls hP hD hS hl
              refine lv_aload_n hx hb dX3_ceilingFor_72 rfl (lv_at hl 1 rfl) ?_
              refine lv_iload_n hx hb dX3_ceilingFor_73 rfl (lv_at hl 2 rfl) ?_
              refine lv_iload_n hx hb dX3_ceilingFor_74 rfl (lv_at hl 3 rfl) ?_
              refine lv_iload hx hb dX3_ceilingFor_75 (lv_at hl 0 rfl) ?_
              refine pq_callV (wr := []) (own := RX3) (nL := 5) (q0 := 0) (ci := 3) [0, 1, 2, 3, 4, 5, 6, 7, 8, 9] [] [.int (nI kf), .int (nI kt), .int (nI cc)] (mX3_presses l D cI mo z1 z2 z3 z4 z5 z6 z7 z8 z9 col hs cs fi la B td lf laid piled prs 0 kf kt (nI cc) (by omega) (by omega)) ⟨hx, hb, hml, hown, hts⟩ (cwV 3 hts gX3_ceilingFor_X3_presses rfl rfl rfl (by decide +kernel) ⟨by dsimp only [pq_R]; omega, by dsimp only [pq_R]; omega⟩) pq_bl0 (fun _ _ _ => trivial) hK hP hD hS hA rfl (by decide) rfl (by decide) (by decide) rfl rfl rfl rfl hl.1 rfl (Nat.le_of_ble_eq_true rfl) dX3_ceilingFor_77 ⟨by dsimp only [pq_R]; omega, by dsimp only [pq_R]; omega⟩ (fun v w1 H locs hq hP hD hS hz => ?_)
              obtain ⟨rfl, rfl⟩ := hq
              have hP : va_P D vwCl [(mo, .inr (3, [.int col, .ref z1, .ref z2, .ref z3, .ref z4, .ref z5, .ref z6, .ref z7, .ref z8, .ref z9, .int lf, .int B.2.2.2.2.1, .int B.2.2.2.2.2.1, .int B.2.2.2.2.2.2, .int laid, .int piled, .int prs, .int 0])), (z1, .inl (cI, 64, .inl hs)), (z2, .inl (cI, 64, .inl cs)), (z3, .inl (cI, 128, .inl fi)), (z4, .inl (cI, 128, .inl la)), (z5, .inl (cI, 128, .inl B.1)), (z6, .inl (cI, 128, .inl B.2.1)), (z7, .inl (cI, 128, .inl B.2.2.1)), (z8, .inl (cI, 128, .inl B.2.2.2.1)), (z9, .inl (cI, 64, .inl td))] H := hP
              have hD : va_D A [(mo, .inr (3, [.int col, .ref z1, .ref z2, .ref z3, .ref z4, .ref z5, .ref z6, .ref z7, .ref z8, .ref z9, .int lf, .int B.2.2.2.2.1, .int B.2.2.2.2.2.1, .int B.2.2.2.2.2.2, .int laid, .int piled, .int prs, .int 0])), (z1, .inl (cI, 64, .inl hs)), (z2, .inl (cI, 64, .inl cs)), (z3, .inl (cI, 128, .inl fi)), (z4, .inl (cI, 128, .inl la)), (z5, .inl (cI, 128, .inl B.1)), (z6, .inl (cI, 128, .inl B.2.1)), (z7, .inl (cI, 128, .inl B.2.2.1)), (z8, .inl (cI, 128, .inl B.2.2.2.1)), (z9, .inl (cI, 64, .inl td))] := hD
              refine W.eq (g2 := F0 m 80 ls [.int (mAbove hs kf (kt + 1 - kf) (nI cc))]) rfl ?_
              refine lv_iload_n hx hb dX3_ceilingFor_80 rfl (lv_at hl 4 rfl) ?_
              refine lv_icmp_ge (tgt := 90) hx hb dX3_ceilingFor_81 (by decide) (fun c_12 => ?_) (fun c_12 => ?_)
              · refine lv_iload hx hb dX3_ceilingFor_90 (lv_at hl 0 rfl) ?_
                exact pq_iret hQ hx hb hr hlocks hK hS hP hD dX3_ceilingFor_92 (by omega) (by omega) (Or.inr ⟨kf, kt, rfl, rfl, hft, htN, by rw [← hrr, mSeek_e c_12], rfl, by rw [mFor3 hft (by omega) hnsp b_6, if_neg (i_nlt c_9)]⟩)
              · have hc1 : 1 ≤ cc := mSeek_p (A := (mAbove hs kf (kt + 1 - kf))) c_9 c_12
                refine lv_iinc (v := nI (cc - 1)) (lv' := [(4, .int (nI (cc - 1))), (0, .ref mo), (1, .int (nI kf)), (2, .int (nI kt)), (3, .int w0)]) hx hb dX3_ceilingFor_84 hl (k := 0) rfl (pq_dec (by omega)) (by decide) rfl (fun ls hl => ?_)
                refine lv_goto (tgt := 72) hx hb dX3_ceilingFor_87 (by decide) ?_
                exact ihLP (cc - 1) (by omega) (by omega) (by rw [mSeek_s hc1 c_12, hrr]) H locs ls hP hD hS (lv_sub hl [0, 1, 2, 3, 4] rfl)
          exact LP _ 1000 (Nat.lt_succ_self _) (by decide) rfl H locs ls hP hD hS (lv_sub hl [0, 1, 2, 3, 4] rfl)
        · refine lv_iconst (v := 3) hx hb dX3_ceilingFor_54 (by decide) ?_
          refine lv_goto (tgt := 59) hx hb dX3_ceilingFor_55 (by decide) ?_
          refine pq_callV (wr := []) (own := RX3) (nL := 5) (q0 := 0) (ci := 3) [0, 1, 2, 3, 4, 5, 6, 7, 8, 9] [] [.int 3] (mX3_isFine l D cI mo z1 z2 z3 z4 z5 z6 z7 z8 z9 col hs cs fi la B td lf laid piled prs 0 3) ⟨hx, hb, hml, hown, hts⟩ (cwV 1 hts gX3_ceilingFor_X3_isFine rfl rfl rfl (by decide +kernel) ⟨by dsimp only [pq_R]; omega, by dsimp only [pq_R]; omega⟩) pq_bl0 (fun _ _ _ => trivial) hK hP hD hS hA rfl (by decide) rfl (by decide) (by decide) rfl rfl rfl rfl hl.1 rfl (Nat.le_of_ble_eq_true rfl) dX3_ceilingFor_59 ⟨by dsimp only [pq_R]; omega, by dsimp only [pq_R]; omega⟩ (fun v w1 H locs hq hP hD hS hz => ?_)
          obtain ⟨rfl, rfl⟩ := hq
          rw [if_neg (show ¬ (3 : Int32) = 0 by decide)]
          have hP : va_P D vwCl [(mo, .inr (3, [.int col, .ref z1, .ref z2, .ref z3, .ref z4, .ref z5, .ref z6, .ref z7, .ref z8, .ref z9, .int lf, .int B.2.2.2.2.1, .int B.2.2.2.2.2.1, .int B.2.2.2.2.2.2, .int laid, .int piled, .int prs, .int 3])), (z1, .inl (cI, 64, .inl hs)), (z2, .inl (cI, 64, .inl cs)), (z3, .inl (cI, 128, .inl fi)), (z4, .inl (cI, 128, .inl la)), (z5, .inl (cI, 128, .inl B.1)), (z6, .inl (cI, 128, .inl B.2.1)), (z7, .inl (cI, 128, .inl B.2.2.1)), (z8, .inl (cI, 128, .inl B.2.2.2.1)), (z9, .inl (cI, 64, .inl td))] H := hP
          have hD : va_D A [(mo, .inr (3, [.int col, .ref z1, .ref z2, .ref z3, .ref z4, .ref z5, .ref z6, .ref z7, .ref z8, .ref z9, .int lf, .int B.2.2.2.2.1, .int B.2.2.2.2.2.1, .int B.2.2.2.2.2.2, .int laid, .int piled, .int prs, .int 3])), (z1, .inl (cI, 64, .inl hs)), (z2, .inl (cI, 64, .inl cs)), (z3, .inl (cI, 128, .inl fi)), (z4, .inl (cI, 128, .inl la)), (z5, .inl (cI, 128, .inl B.1)), (z6, .inl (cI, 128, .inl B.2.1)), (z7, .inl (cI, 128, .inl B.2.2.1)), (z8, .inl (cI, 128, .inl B.2.2.2.1)), (z9, .inl (cI, 64, .inl td))] := hD
          refine W.eq (g2 := F0 m 62 ls [.int 0]) rfl ?_
          refine lv_if_ne (tgt := 67) hx hb dX3_ceilingFor_62 (by decide) (fun c9 => absurd c9 (by decide)) (fun _ => ?_)
          refine lv_iconst (v := 0) hx hb dX3_ceilingFor_65 (by decide) ?_
          exact pq_iret hQ hx hb hr hlocks hK hS hP hD dX3_ceilingFor_66 (by omega) (by omega) (by have hcd : mFor col hs (nI kf) (nI kt) w0 = 3 := (by rw [mFor3 hft (by omega) hnsp b_6, if_pos (i_lt c_9)]); exact Or.inl ⟨by rw [hcd]; decide, rfl, by rw [hcd] <;> rfl⟩)
      · rw [if_neg b_6]
        refine W.eq (g2 := F0 m 26 ls [.int 0, .ref mo]) rfl ?_
        refine lv_if_ne (tgt := 33) hx hb dX3_ceilingFor_26 (by decide) (fun c9 => absurd c9 (by decide)) (fun _ => ?_)
        refine lv_iconst (v := 2) hx hb dX3_ceilingFor_29 (by decide) ?_
        refine lv_goto (tgt := 34) hx hb dX3_ceilingFor_30 (by decide) ?_
        refine pq_callV (wr := []) (own := RX3) (nL := 5) (q0 := 0) (ci := 3) [0, 1, 2, 3, 4, 5, 6, 7, 8, 9] [] [.int 2] (mX3_isFine l D cI mo z1 z2 z3 z4 z5 z6 z7 z8 z9 col hs cs fi la B td lf laid piled prs thr 2) ⟨hx, hb, hml, hown, hts⟩ (cwV 1 hts gX3_ceilingFor_X3_isFine rfl rfl rfl (by decide +kernel) ⟨by dsimp only [pq_R]; omega, by dsimp only [pq_R]; omega⟩) pq_bl0 (fun _ _ _ => trivial) hK hP hD hS hA rfl (by decide) rfl (by decide) (by decide) rfl rfl rfl rfl hl.1 rfl (Nat.le_of_ble_eq_true rfl) dX3_ceilingFor_34 ⟨by dsimp only [pq_R]; omega, by dsimp only [pq_R]; omega⟩ (fun v w1 H locs hq hP hD hS hz => ?_)
        obtain ⟨rfl, rfl⟩ := hq
        rw [if_neg (show ¬ (2 : Int32) = 0 by decide)]
        have hP : va_P D vwCl [(mo, .inr (3, [.int col, .ref z1, .ref z2, .ref z3, .ref z4, .ref z5, .ref z6, .ref z7, .ref z8, .ref z9, .int lf, .int B.2.2.2.2.1, .int B.2.2.2.2.2.1, .int B.2.2.2.2.2.2, .int laid, .int piled, .int prs, .int 2])), (z1, .inl (cI, 64, .inl hs)), (z2, .inl (cI, 64, .inl cs)), (z3, .inl (cI, 128, .inl fi)), (z4, .inl (cI, 128, .inl la)), (z5, .inl (cI, 128, .inl B.1)), (z6, .inl (cI, 128, .inl B.2.1)), (z7, .inl (cI, 128, .inl B.2.2.1)), (z8, .inl (cI, 128, .inl B.2.2.2.1)), (z9, .inl (cI, 64, .inl td))] H := hP
        have hD : va_D A [(mo, .inr (3, [.int col, .ref z1, .ref z2, .ref z3, .ref z4, .ref z5, .ref z6, .ref z7, .ref z8, .ref z9, .int lf, .int B.2.2.2.2.1, .int B.2.2.2.2.2.1, .int B.2.2.2.2.2.2, .int laid, .int piled, .int prs, .int 2])), (z1, .inl (cI, 64, .inl hs)), (z2, .inl (cI, 64, .inl cs)), (z3, .inl (cI, 128, .inl fi)), (z4, .inl (cI, 128, .inl la)), (z5, .inl (cI, 128, .inl B.1)), (z6, .inl (cI, 128, .inl B.2.1)), (z7, .inl (cI, 128, .inl B.2.2.1)), (z8, .inl (cI, 128, .inl B.2.2.2.1)), (z9, .inl (cI, 64, .inl td))] := hD
        refine W.eq (g2 := F0 m 37 ls [.int 0]) rfl ?_
        refine lv_if_ne (tgt := 42) hx hb dX3_ceilingFor_37 (by decide) (fun c9 => absurd c9 (by decide)) (fun _ => ?_)
        refine lv_iconst (v := 0) hx hb dX3_ceilingFor_40 (by decide) ?_
        exact pq_iret hQ hx hb hr hlocks hK hS hP hD dX3_ceilingFor_41 (by omega) (by omega) (by have hcd : mFor col hs x y w0 = 2 := (by rw [mFor, if_neg b_2, if_pos (Or.inr (Classical.not_not.mp b_6))]); exact Or.inl ⟨by rw [hcd]; decide, rfl, by rw [hcd] <;> rfl⟩)
  · rw [if_neg b_2]
    refine W.eq (g2 := F0 m 7 ls [.int 0, .ref mo]) rfl ?_
    refine lv_if_ne (tgt := 14) hx hb dX3_ceilingFor_7 (by decide) (fun c9 => absurd c9 (by decide)) (fun _ => ?_)
    refine lv_iconst (v := 1) hx hb dX3_ceilingFor_10 (by decide) ?_
    refine lv_goto (tgt := 34) hx hb dX3_ceilingFor_11 (by decide) ?_
    refine pq_callV (wr := []) (own := RX3) (nL := 5) (q0 := 0) (ci := 3) [0, 1, 2, 3, 4, 5, 6, 7, 8, 9] [] [.int 1] (mX3_isFine l D cI mo z1 z2 z3 z4 z5 z6 z7 z8 z9 col hs cs fi la B td lf laid piled prs thr 1) ⟨hx, hb, hml, hown, hts⟩ (cwV 1 hts gX3_ceilingFor_X3_isFine rfl rfl rfl (by decide +kernel) ⟨by dsimp only [pq_R]; omega, by dsimp only [pq_R]; omega⟩) pq_bl0 (fun _ _ _ => trivial) hK hP hD hS hA rfl (by decide) rfl (by decide) (by decide) rfl rfl rfl rfl hl.1 rfl (Nat.le_of_ble_eq_true rfl) dX3_ceilingFor_34 ⟨by dsimp only [pq_R]; omega, by dsimp only [pq_R]; omega⟩ (fun v w1 H locs hq hP hD hS hz => ?_)
    obtain ⟨rfl, rfl⟩ := hq
    rw [if_neg (show ¬ (1 : Int32) = 0 by decide)]
    have hP : va_P D vwCl [(mo, .inr (3, [.int col, .ref z1, .ref z2, .ref z3, .ref z4, .ref z5, .ref z6, .ref z7, .ref z8, .ref z9, .int lf, .int B.2.2.2.2.1, .int B.2.2.2.2.2.1, .int B.2.2.2.2.2.2, .int laid, .int piled, .int prs, .int 1])), (z1, .inl (cI, 64, .inl hs)), (z2, .inl (cI, 64, .inl cs)), (z3, .inl (cI, 128, .inl fi)), (z4, .inl (cI, 128, .inl la)), (z5, .inl (cI, 128, .inl B.1)), (z6, .inl (cI, 128, .inl B.2.1)), (z7, .inl (cI, 128, .inl B.2.2.1)), (z8, .inl (cI, 128, .inl B.2.2.2.1)), (z9, .inl (cI, 64, .inl td))] H := hP
    have hD : va_D A [(mo, .inr (3, [.int col, .ref z1, .ref z2, .ref z3, .ref z4, .ref z5, .ref z6, .ref z7, .ref z8, .ref z9, .int lf, .int B.2.2.2.2.1, .int B.2.2.2.2.2.1, .int B.2.2.2.2.2.2, .int laid, .int piled, .int prs, .int 1])), (z1, .inl (cI, 64, .inl hs)), (z2, .inl (cI, 64, .inl cs)), (z3, .inl (cI, 128, .inl fi)), (z4, .inl (cI, 128, .inl la)), (z5, .inl (cI, 128, .inl B.1)), (z6, .inl (cI, 128, .inl B.2.1)), (z7, .inl (cI, 128, .inl B.2.2.1)), (z8, .inl (cI, 128, .inl B.2.2.2.1)), (z9, .inl (cI, 64, .inl td))] := hD
    refine W.eq (g2 := F0 m 37 ls [.int 0]) rfl ?_
    refine lv_if_ne (tgt := 42) hx hb dX3_ceilingFor_37 (by decide) (fun c9 => absurd c9 (by decide)) (fun _ => ?_)
    refine lv_iconst (v := 0) hx hb dX3_ceilingFor_40 (by decide) ?_
    exact pq_iret hQ hx hb hr hlocks hK hS hP hD dX3_ceilingFor_41 (by omega) (by omega) (by have hcd : mFor col hs x y w0 = 1 := (by rw [mFor, if_pos (Classical.not_not.mp b_2)]); exact Or.inl ⟨by rw [hcd]; decide, rfl, by rw [hcd] <;> rfl⟩)

set_option maxHeartbeats 4000000 in
set_option maxRecDepth 100000 in
theorem mX3_height (l : Launch) (D : va_G) (cI : ClassId) (mo z1 z2 z3 z4 z5 z6 z7 z8 z9 : Nat) (col : Int32) (hs cs fi la : Nat → Int32) (B : BK) (td : Nat → Int32) (lf laid piled prs thr : Int32) (x : Int32) (N : Nat) (hN : col = nI N) (hN1 : 1 ≤ N) (hN2 : N ≤ 64) : pq_M l yX3_height wsX3_height 2 43 0 0 D [(cI, .int)] pq_0 (mdW mo z1 z2 z3 z4 z5 z6 z7 z8 z9 cI col hs cs fi la B td lf laid piled prs thr) [.ref mo, .int x] (fun v w1 => (cCol col x ≠ 0 ∧ v = some (.int 0) ∧ w1 = mdW mo z1 z2 z3 z4 z5 z6 z7 z8 z9 cI col hs cs fi la B td lf laid piled prs (cCol col x)) ∨ (∃ k, x = nI k ∧ k < N ∧ v = some (.int (hs k)) ∧ w1 = mdW mo z1 z2 z3 z4 z5 z6 z7 z8 z9 cI col hs cs fi la B td lf laid piled prs 0 ∧ cCol col x = 0)) := by
  refine pq_enter (cc := cX3_height) (maxL := 2) (ret := (some .int)) (by decide) rfl (Nat.le_of_ble_eq_true rfl) ?_
  intro p ev s m args below meth cd A ls Q H locs hx hb hr hml hts hown hlocks hnm hK hP hD hS hA hE hl hQ
  have hl : lv_has ls 2 [(0, .ref mo), (1, .int x)] := hl
  have hP : va_P D vwCl [(mo, .inr (3, [.int col, .ref z1, .ref z2, .ref z3, .ref z4, .ref z5, .ref z6, .ref z7, .ref z8, .ref z9, .int lf, .int B.2.2.2.2.1, .int B.2.2.2.2.2.1, .int B.2.2.2.2.2.2, .int laid, .int piled, .int prs, .int thr])), (z1, .inl (cI, 64, .inl hs)), (z2, .inl (cI, 64, .inl cs)), (z3, .inl (cI, 128, .inl fi)), (z4, .inl (cI, 128, .inl la)), (z5, .inl (cI, 128, .inl B.1)), (z6, .inl (cI, 128, .inl B.2.1)), (z7, .inl (cI, 128, .inl B.2.2.1)), (z8, .inl (cI, 128, .inl B.2.2.2.1)), (z9, .inl (cI, 64, .inl td))] H := hP
  have hD : va_D A [(mo, .inr (3, [.int col, .ref z1, .ref z2, .ref z3, .ref z4, .ref z5, .ref z6, .ref z7, .ref z8, .ref z9, .int lf, .int B.2.2.2.2.1, .int B.2.2.2.2.2.1, .int B.2.2.2.2.2.2, .int laid, .int piled, .int prs, .int thr])), (z1, .inl (cI, 64, .inl hs)), (z2, .inl (cI, 64, .inl cs)), (z3, .inl (cI, 128, .inl fi)), (z4, .inl (cI, 128, .inl la)), (z5, .inl (cI, 128, .inl B.1)), (z6, .inl (cI, 128, .inl B.2.1)), (z7, .inl (cI, 128, .inl B.2.2.1)), (z8, .inl (cI, 128, .inl B.2.2.2.1)), (z9, .inl (cI, 64, .inl td))] := hD
  have hin_X3 : ∀ w ∈ wsX30, w ∈ wsX3_height := by decide +kernel
  have hf_PressedPlainsModel_7 := hts (.fieldLink RX3 7 "PressedPlainsModel" "height" "[I") (by decide +kernel)
  refine lv_aload_n hx hb dX3_height_0 rfl (lv_at hl 0 rfl) ?_
  refine lv_aload_n hx hb dX3_height_1 rfl (lv_at hl 0 rfl) ?_
  refine lv_iload_n hx hb dX3_height_2 rfl (lv_at hl 1 rfl) ?_
  refine pq_callV (wr := []) (own := RX3) (nL := 2) (q0 := 0) (ci := 3) [0, 1, 2, 3, 4, 5, 6, 7, 8, 9] [] [.int x] (mX3_isColumn l D cI mo z1 z2 z3 z4 z5 z6 z7 z8 z9 col hs cs fi la B td lf laid piled prs thr x N hN hN1 hN2) ⟨hx, hb, hml, hown, hts⟩ (cwV 1 hts gX3_height_X3_isColumn rfl rfl rfl (by decide +kernel) ⟨by dsimp only [pq_R]; omega, by dsimp only [pq_R]; omega⟩) pq_bl0 (fun _ _ _ => trivial) hK hP hD hS hA rfl (by decide) rfl (by decide) (by decide) rfl rfl rfl rfl hl.1 rfl (Nat.le_of_ble_eq_true rfl) dX3_height_3 ⟨by dsimp only [pq_R]; omega, by dsimp only [pq_R]; omega⟩ (fun v w1 H locs hq hP hD hS hz => ?_)
  obtain ⟨rfl, rfl⟩ := hq
  have hP : va_P D vwCl [(mo, .inr (3, [.int col, .ref z1, .ref z2, .ref z3, .ref z4, .ref z5, .ref z6, .ref z7, .ref z8, .ref z9, .int lf, .int B.2.2.2.2.1, .int B.2.2.2.2.2.1, .int B.2.2.2.2.2.2, .int laid, .int piled, .int prs, .int thr])), (z1, .inl (cI, 64, .inl hs)), (z2, .inl (cI, 64, .inl cs)), (z3, .inl (cI, 128, .inl fi)), (z4, .inl (cI, 128, .inl la)), (z5, .inl (cI, 128, .inl B.1)), (z6, .inl (cI, 128, .inl B.2.1)), (z7, .inl (cI, 128, .inl B.2.2.1)), (z8, .inl (cI, 128, .inl B.2.2.2.1)), (z9, .inl (cI, 64, .inl td))] H := hP
  have hD : va_D A [(mo, .inr (3, [.int col, .ref z1, .ref z2, .ref z3, .ref z4, .ref z5, .ref z6, .ref z7, .ref z8, .ref z9, .int lf, .int B.2.2.2.2.1, .int B.2.2.2.2.2.1, .int B.2.2.2.2.2.2, .int laid, .int piled, .int prs, .int thr])), (z1, .inl (cI, 64, .inl hs)), (z2, .inl (cI, 64, .inl cs)), (z3, .inl (cI, 128, .inl fi)), (z4, .inl (cI, 128, .inl la)), (z5, .inl (cI, 128, .inl B.1)), (z6, .inl (cI, 128, .inl B.2.1)), (z7, .inl (cI, 128, .inl B.2.2.1)), (z8, .inl (cI, 128, .inl B.2.2.2.1)), (z9, .inl (cI, 64, .inl td))] := hD
  by_cases b_2 : ¬ bCol col x
  · rw [if_pos b_2]
    refine W.eq (g2 := F0 m 6 ls [.int 1, .ref mo]) rfl ?_
    refine lv_if_eq (tgt := 13) hx hb dX3_height_6 (by decide) (fun c9 => absurd c9 (by decide)) (fun _ => ?_)
    refine lv_iconst (v := 0) hx hb dX3_height_9 (by decide) ?_
    refine lv_goto (tgt := 14) hx hb dX3_height_10 (by decide) ?_
    refine pq_callV (wr := []) (own := RX3) (nL := 2) (q0 := 0) (ci := 3) [0, 1, 2, 3, 4, 5, 6, 7, 8, 9] [] [.int 0] (mX3_isFine l D cI mo z1 z2 z3 z4 z5 z6 z7 z8 z9 col hs cs fi la B td lf laid piled prs thr 0) ⟨hx, hb, hml, hown, hts⟩ (cwV 1 hts gX3_height_X3_isFine rfl rfl rfl (by decide +kernel) ⟨by dsimp only [pq_R]; omega, by dsimp only [pq_R]; omega⟩) pq_bl0 (fun _ _ _ => trivial) hK hP hD hS hA rfl (by decide) rfl (by decide) (by decide) rfl rfl rfl rfl hl.1 rfl (Nat.le_of_ble_eq_true rfl) dX3_height_14 ⟨by dsimp only [pq_R]; omega, by dsimp only [pq_R]; omega⟩ (fun v w1 H locs hq hP hD hS hz => ?_)
    obtain ⟨rfl, rfl⟩ := hq
    rw [if_pos rfl]
    have hP : va_P D vwCl [(mo, .inr (3, [.int col, .ref z1, .ref z2, .ref z3, .ref z4, .ref z5, .ref z6, .ref z7, .ref z8, .ref z9, .int lf, .int B.2.2.2.2.1, .int B.2.2.2.2.2.1, .int B.2.2.2.2.2.2, .int laid, .int piled, .int prs, .int 0])), (z1, .inl (cI, 64, .inl hs)), (z2, .inl (cI, 64, .inl cs)), (z3, .inl (cI, 128, .inl fi)), (z4, .inl (cI, 128, .inl la)), (z5, .inl (cI, 128, .inl B.1)), (z6, .inl (cI, 128, .inl B.2.1)), (z7, .inl (cI, 128, .inl B.2.2.1)), (z8, .inl (cI, 128, .inl B.2.2.2.1)), (z9, .inl (cI, 64, .inl td))] H := hP
    have hD : va_D A [(mo, .inr (3, [.int col, .ref z1, .ref z2, .ref z3, .ref z4, .ref z5, .ref z6, .ref z7, .ref z8, .ref z9, .int lf, .int B.2.2.2.2.1, .int B.2.2.2.2.2.1, .int B.2.2.2.2.2.2, .int laid, .int piled, .int prs, .int 0])), (z1, .inl (cI, 64, .inl hs)), (z2, .inl (cI, 64, .inl cs)), (z3, .inl (cI, 128, .inl fi)), (z4, .inl (cI, 128, .inl la)), (z5, .inl (cI, 128, .inl B.1)), (z6, .inl (cI, 128, .inl B.2.1)), (z7, .inl (cI, 128, .inl B.2.2.1)), (z8, .inl (cI, 128, .inl B.2.2.2.1)), (z9, .inl (cI, 64, .inl td))] := hD
    refine W.eq (g2 := F0 m 17 ls [.int 1]) rfl ?_
    refine lv_if_eq (tgt := 29) hx hb dX3_height_17 (by decide) (fun c9 => absurd c9 (by decide)) (fun _ => ?_)
    have hcx : ¬ bCol col x := b_2
    obtain ⟨kx, hkx, rfl⟩ := colN hcx hN hN2
    refine lv_aload_n hx hb dX3_height_20 rfl (lv_at hl 0 rfl) ?_
    refine va_get (D := D) (ci := 3) (v := .ref z1) (C := RX3) (T := TX3) (N := 18) hx hb hts hin_X3 hown hK hP 0 rfl rfl 1 (by decide) hf_PressedPlainsModel_7 (fun _ h9 => h9) rfl dX3_height_21 ?_
    refine lv_iload_n hx hb dX3_height_24 rfl (lv_at hl 1 rfl) ?_
    refine pq_iald hx hb hK hP 1 0 rfl rfl kx (by omega) (by decide) dX3_height_25 ?_
    refine lv_goto (tgt := 30) hx hb dX3_height_26 (by decide) ?_
    exact pq_iret hQ hx hb hr hlocks hK hS hP hD dX3_height_30 (by omega) (by omega) (Or.inr ⟨kx, rfl, hkx, rfl, rfl, cl_col hcx⟩)
  · rw [if_neg b_2]
    refine W.eq (g2 := F0 m 6 ls [.int 0, .ref mo]) rfl ?_
    refine lv_if_eq (tgt := 13) hx hb dX3_height_6 (by decide) (fun _ => ?_) (fun c9 => absurd c9 (by decide))
    refine lv_iconst (v := 1) hx hb dX3_height_13 (by decide) ?_
    refine pq_callV (wr := []) (own := RX3) (nL := 2) (q0 := 0) (ci := 3) [0, 1, 2, 3, 4, 5, 6, 7, 8, 9] [] [.int 1] (mX3_isFine l D cI mo z1 z2 z3 z4 z5 z6 z7 z8 z9 col hs cs fi la B td lf laid piled prs thr 1) ⟨hx, hb, hml, hown, hts⟩ (cwV 1 hts gX3_height_X3_isFine rfl rfl rfl (by decide +kernel) ⟨by dsimp only [pq_R]; omega, by dsimp only [pq_R]; omega⟩) pq_bl0 (fun _ _ _ => trivial) hK hP hD hS hA rfl (by decide) rfl (by decide) (by decide) rfl rfl rfl rfl hl.1 rfl (Nat.le_of_ble_eq_true rfl) dX3_height_14 ⟨by dsimp only [pq_R]; omega, by dsimp only [pq_R]; omega⟩ (fun v w1 H locs hq hP hD hS hz => ?_)
    obtain ⟨rfl, rfl⟩ := hq
    rw [if_neg (show ¬ (1 : Int32) = 0 by decide)]
    have hP : va_P D vwCl [(mo, .inr (3, [.int col, .ref z1, .ref z2, .ref z3, .ref z4, .ref z5, .ref z6, .ref z7, .ref z8, .ref z9, .int lf, .int B.2.2.2.2.1, .int B.2.2.2.2.2.1, .int B.2.2.2.2.2.2, .int laid, .int piled, .int prs, .int 1])), (z1, .inl (cI, 64, .inl hs)), (z2, .inl (cI, 64, .inl cs)), (z3, .inl (cI, 128, .inl fi)), (z4, .inl (cI, 128, .inl la)), (z5, .inl (cI, 128, .inl B.1)), (z6, .inl (cI, 128, .inl B.2.1)), (z7, .inl (cI, 128, .inl B.2.2.1)), (z8, .inl (cI, 128, .inl B.2.2.2.1)), (z9, .inl (cI, 64, .inl td))] H := hP
    have hD : va_D A [(mo, .inr (3, [.int col, .ref z1, .ref z2, .ref z3, .ref z4, .ref z5, .ref z6, .ref z7, .ref z8, .ref z9, .int lf, .int B.2.2.2.2.1, .int B.2.2.2.2.2.1, .int B.2.2.2.2.2.2, .int laid, .int piled, .int prs, .int 1])), (z1, .inl (cI, 64, .inl hs)), (z2, .inl (cI, 64, .inl cs)), (z3, .inl (cI, 128, .inl fi)), (z4, .inl (cI, 128, .inl la)), (z5, .inl (cI, 128, .inl B.1)), (z6, .inl (cI, 128, .inl B.2.1)), (z7, .inl (cI, 128, .inl B.2.2.1)), (z8, .inl (cI, 128, .inl B.2.2.2.1)), (z9, .inl (cI, 64, .inl td))] := hD
    refine W.eq (g2 := F0 m 17 ls [.int 0]) rfl ?_
    refine lv_if_eq (tgt := 29) hx hb dX3_height_17 (by decide) (fun _ => ?_) (fun c9 => absurd c9 (by decide))
    refine lv_iconst (v := 0) hx hb dX3_height_29 (by decide) ?_
    exact pq_iret hQ hx hb hr hlocks hK hS hP hD dX3_height_30 (by omega) (by omega) (by have hcd : cCol col x = 1 := (by rw [cCol, if_pos (Classical.not_not.mp b_2)]); exact Or.inl ⟨by rw [hcd]; decide, rfl, by rw [hcd] <;> rfl⟩)

set_option maxHeartbeats 4000000 in
set_option maxRecDepth 100000 in
theorem mX3_heightOfColumn (l : Launch) (D : va_G) (cI : ClassId) (mo z1 z2 z3 z4 z5 z6 z7 z8 z9 : Nat) (col : Int32) (hs cs fi la : Nat → Int32) (B : BK) (td : Nat → Int32) (lf laid piled prs thr : Int32) (x : Int32) (N : Nat) (hN : col = nI N) (hN1 : 1 ≤ N) (hN2 : N ≤ 64) : pq_M l yX3_heightOfColumn wsX3_heightOfColumn 2 43 0 0 D [(cI, .int)] pq_0 (mdW mo z1 z2 z3 z4 z5 z6 z7 z8 z9 cI col hs cs fi la B td lf laid piled prs thr) [.ref mo, .int x] (fun v w1 => (cCol col x ≠ 0 ∧ v = some (.int 0) ∧ w1 = mdW mo z1 z2 z3 z4 z5 z6 z7 z8 z9 cI col hs cs fi la B td lf laid piled prs (cCol col x)) ∨ (∃ k, x = nI k ∧ k < N ∧ v = some (.int (hs k)) ∧ w1 = mdW mo z1 z2 z3 z4 z5 z6 z7 z8 z9 cI col hs cs fi la B td lf laid piled prs 0 ∧ cCol col x = 0)) := by
  refine pq_enter (cc := cX3_heightOfColumn) (maxL := 2) (ret := (some .int)) (by decide) rfl (Nat.le_of_ble_eq_true rfl) ?_
  intro p ev s m args below meth cd A ls Q H locs hx hb hr hml hts hown hlocks hnm hK hP hD hS hA hE hl hQ
  have hl : lv_has ls 2 [(0, .ref mo), (1, .int x)] := hl
  have hP : va_P D vwCl [(mo, .inr (3, [.int col, .ref z1, .ref z2, .ref z3, .ref z4, .ref z5, .ref z6, .ref z7, .ref z8, .ref z9, .int lf, .int B.2.2.2.2.1, .int B.2.2.2.2.2.1, .int B.2.2.2.2.2.2, .int laid, .int piled, .int prs, .int thr])), (z1, .inl (cI, 64, .inl hs)), (z2, .inl (cI, 64, .inl cs)), (z3, .inl (cI, 128, .inl fi)), (z4, .inl (cI, 128, .inl la)), (z5, .inl (cI, 128, .inl B.1)), (z6, .inl (cI, 128, .inl B.2.1)), (z7, .inl (cI, 128, .inl B.2.2.1)), (z8, .inl (cI, 128, .inl B.2.2.2.1)), (z9, .inl (cI, 64, .inl td))] H := hP
  have hD : va_D A [(mo, .inr (3, [.int col, .ref z1, .ref z2, .ref z3, .ref z4, .ref z5, .ref z6, .ref z7, .ref z8, .ref z9, .int lf, .int B.2.2.2.2.1, .int B.2.2.2.2.2.1, .int B.2.2.2.2.2.2, .int laid, .int piled, .int prs, .int thr])), (z1, .inl (cI, 64, .inl hs)), (z2, .inl (cI, 64, .inl cs)), (z3, .inl (cI, 128, .inl fi)), (z4, .inl (cI, 128, .inl la)), (z5, .inl (cI, 128, .inl B.1)), (z6, .inl (cI, 128, .inl B.2.1)), (z7, .inl (cI, 128, .inl B.2.2.1)), (z8, .inl (cI, 128, .inl B.2.2.2.1)), (z9, .inl (cI, 64, .inl td))] := hD
  have hin_X3 : ∀ w ∈ wsX30, w ∈ wsX3_heightOfColumn := by decide +kernel
  have hf_PressedPlainsModel_7 := hts (.fieldLink RX3 7 "PressedPlainsModel" "height" "[I") (by decide +kernel)
  refine lv_aload_n hx hb dX3_heightOfColumn_0 rfl (lv_at hl 0 rfl) ?_
  refine lv_aload_n hx hb dX3_heightOfColumn_1 rfl (lv_at hl 0 rfl) ?_
  refine lv_iload_n hx hb dX3_heightOfColumn_2 rfl (lv_at hl 1 rfl) ?_
  refine pq_callV (wr := []) (own := RX3) (nL := 2) (q0 := 0) (ci := 3) [0, 1, 2, 3, 4, 5, 6, 7, 8, 9] [] [.int x] (mX3_isColumn l D cI mo z1 z2 z3 z4 z5 z6 z7 z8 z9 col hs cs fi la B td lf laid piled prs thr x N hN hN1 hN2) ⟨hx, hb, hml, hown, hts⟩ (cwV 1 hts gX3_heightOfColumn_X3_isColumn rfl rfl rfl (by decide +kernel) ⟨by dsimp only [pq_R]; omega, by dsimp only [pq_R]; omega⟩) pq_bl0 (fun _ _ _ => trivial) hK hP hD hS hA rfl (by decide) rfl (by decide) (by decide) rfl rfl rfl rfl hl.1 rfl (Nat.le_of_ble_eq_true rfl) dX3_heightOfColumn_3 ⟨by dsimp only [pq_R]; omega, by dsimp only [pq_R]; omega⟩ (fun v w1 H locs hq hP hD hS hz => ?_)
  obtain ⟨rfl, rfl⟩ := hq
  have hP : va_P D vwCl [(mo, .inr (3, [.int col, .ref z1, .ref z2, .ref z3, .ref z4, .ref z5, .ref z6, .ref z7, .ref z8, .ref z9, .int lf, .int B.2.2.2.2.1, .int B.2.2.2.2.2.1, .int B.2.2.2.2.2.2, .int laid, .int piled, .int prs, .int thr])), (z1, .inl (cI, 64, .inl hs)), (z2, .inl (cI, 64, .inl cs)), (z3, .inl (cI, 128, .inl fi)), (z4, .inl (cI, 128, .inl la)), (z5, .inl (cI, 128, .inl B.1)), (z6, .inl (cI, 128, .inl B.2.1)), (z7, .inl (cI, 128, .inl B.2.2.1)), (z8, .inl (cI, 128, .inl B.2.2.2.1)), (z9, .inl (cI, 64, .inl td))] H := hP
  have hD : va_D A [(mo, .inr (3, [.int col, .ref z1, .ref z2, .ref z3, .ref z4, .ref z5, .ref z6, .ref z7, .ref z8, .ref z9, .int lf, .int B.2.2.2.2.1, .int B.2.2.2.2.2.1, .int B.2.2.2.2.2.2, .int laid, .int piled, .int prs, .int thr])), (z1, .inl (cI, 64, .inl hs)), (z2, .inl (cI, 64, .inl cs)), (z3, .inl (cI, 128, .inl fi)), (z4, .inl (cI, 128, .inl la)), (z5, .inl (cI, 128, .inl B.1)), (z6, .inl (cI, 128, .inl B.2.1)), (z7, .inl (cI, 128, .inl B.2.2.1)), (z8, .inl (cI, 128, .inl B.2.2.2.1)), (z9, .inl (cI, 64, .inl td))] := hD
  by_cases b_2 : ¬ bCol col x
  · rw [if_pos b_2]
    refine W.eq (g2 := F0 m 6 ls [.int 1, .ref mo]) rfl ?_
    refine lv_if_eq (tgt := 13) hx hb dX3_heightOfColumn_6 (by decide) (fun c9 => absurd c9 (by decide)) (fun _ => ?_)
    refine lv_iconst (v := 0) hx hb dX3_heightOfColumn_9 (by decide) ?_
    refine lv_goto (tgt := 14) hx hb dX3_heightOfColumn_10 (by decide) ?_
    refine pq_callV (wr := []) (own := RX3) (nL := 2) (q0 := 0) (ci := 3) [0, 1, 2, 3, 4, 5, 6, 7, 8, 9] [] [.int 0] (mX3_isFine l D cI mo z1 z2 z3 z4 z5 z6 z7 z8 z9 col hs cs fi la B td lf laid piled prs thr 0) ⟨hx, hb, hml, hown, hts⟩ (cwV 1 hts gX3_heightOfColumn_X3_isFine rfl rfl rfl (by decide +kernel) ⟨by dsimp only [pq_R]; omega, by dsimp only [pq_R]; omega⟩) pq_bl0 (fun _ _ _ => trivial) hK hP hD hS hA rfl (by decide) rfl (by decide) (by decide) rfl rfl rfl rfl hl.1 rfl (Nat.le_of_ble_eq_true rfl) dX3_heightOfColumn_14 ⟨by dsimp only [pq_R]; omega, by dsimp only [pq_R]; omega⟩ (fun v w1 H locs hq hP hD hS hz => ?_)
    obtain ⟨rfl, rfl⟩ := hq
    rw [if_pos rfl]
    have hP : va_P D vwCl [(mo, .inr (3, [.int col, .ref z1, .ref z2, .ref z3, .ref z4, .ref z5, .ref z6, .ref z7, .ref z8, .ref z9, .int lf, .int B.2.2.2.2.1, .int B.2.2.2.2.2.1, .int B.2.2.2.2.2.2, .int laid, .int piled, .int prs, .int 0])), (z1, .inl (cI, 64, .inl hs)), (z2, .inl (cI, 64, .inl cs)), (z3, .inl (cI, 128, .inl fi)), (z4, .inl (cI, 128, .inl la)), (z5, .inl (cI, 128, .inl B.1)), (z6, .inl (cI, 128, .inl B.2.1)), (z7, .inl (cI, 128, .inl B.2.2.1)), (z8, .inl (cI, 128, .inl B.2.2.2.1)), (z9, .inl (cI, 64, .inl td))] H := hP
    have hD : va_D A [(mo, .inr (3, [.int col, .ref z1, .ref z2, .ref z3, .ref z4, .ref z5, .ref z6, .ref z7, .ref z8, .ref z9, .int lf, .int B.2.2.2.2.1, .int B.2.2.2.2.2.1, .int B.2.2.2.2.2.2, .int laid, .int piled, .int prs, .int 0])), (z1, .inl (cI, 64, .inl hs)), (z2, .inl (cI, 64, .inl cs)), (z3, .inl (cI, 128, .inl fi)), (z4, .inl (cI, 128, .inl la)), (z5, .inl (cI, 128, .inl B.1)), (z6, .inl (cI, 128, .inl B.2.1)), (z7, .inl (cI, 128, .inl B.2.2.1)), (z8, .inl (cI, 128, .inl B.2.2.2.1)), (z9, .inl (cI, 64, .inl td))] := hD
    refine W.eq (g2 := F0 m 17 ls [.int 1]) rfl ?_
    refine lv_if_eq (tgt := 29) hx hb dX3_heightOfColumn_17 (by decide) (fun c9 => absurd c9 (by decide)) (fun _ => ?_)
    have hcx : ¬ bCol col x := b_2
    obtain ⟨kx, hkx, rfl⟩ := colN hcx hN hN2
    refine lv_aload_n hx hb dX3_heightOfColumn_20 rfl (lv_at hl 0 rfl) ?_
    refine va_get (D := D) (ci := 3) (v := .ref z1) (C := RX3) (T := TX3) (N := 18) hx hb hts hin_X3 hown hK hP 0 rfl rfl 1 (by decide) hf_PressedPlainsModel_7 (fun _ h9 => h9) rfl dX3_heightOfColumn_21 ?_
    refine lv_iload_n hx hb dX3_heightOfColumn_24 rfl (lv_at hl 1 rfl) ?_
    refine pq_iald hx hb hK hP 1 0 rfl rfl kx (by omega) (by decide) dX3_heightOfColumn_25 ?_
    refine lv_goto (tgt := 30) hx hb dX3_heightOfColumn_26 (by decide) ?_
    exact pq_iret hQ hx hb hr hlocks hK hS hP hD dX3_heightOfColumn_30 (by omega) (by omega) (Or.inr ⟨kx, rfl, hkx, rfl, rfl, cl_col hcx⟩)
  · rw [if_neg b_2]
    refine W.eq (g2 := F0 m 6 ls [.int 0, .ref mo]) rfl ?_
    refine lv_if_eq (tgt := 13) hx hb dX3_heightOfColumn_6 (by decide) (fun _ => ?_) (fun c9 => absurd c9 (by decide))
    refine lv_iconst (v := 1) hx hb dX3_heightOfColumn_13 (by decide) ?_
    refine pq_callV (wr := []) (own := RX3) (nL := 2) (q0 := 0) (ci := 3) [0, 1, 2, 3, 4, 5, 6, 7, 8, 9] [] [.int 1] (mX3_isFine l D cI mo z1 z2 z3 z4 z5 z6 z7 z8 z9 col hs cs fi la B td lf laid piled prs thr 1) ⟨hx, hb, hml, hown, hts⟩ (cwV 1 hts gX3_heightOfColumn_X3_isFine rfl rfl rfl (by decide +kernel) ⟨by dsimp only [pq_R]; omega, by dsimp only [pq_R]; omega⟩) pq_bl0 (fun _ _ _ => trivial) hK hP hD hS hA rfl (by decide) rfl (by decide) (by decide) rfl rfl rfl rfl hl.1 rfl (Nat.le_of_ble_eq_true rfl) dX3_heightOfColumn_14 ⟨by dsimp only [pq_R]; omega, by dsimp only [pq_R]; omega⟩ (fun v w1 H locs hq hP hD hS hz => ?_)
    obtain ⟨rfl, rfl⟩ := hq
    rw [if_neg (show ¬ (1 : Int32) = 0 by decide)]
    have hP : va_P D vwCl [(mo, .inr (3, [.int col, .ref z1, .ref z2, .ref z3, .ref z4, .ref z5, .ref z6, .ref z7, .ref z8, .ref z9, .int lf, .int B.2.2.2.2.1, .int B.2.2.2.2.2.1, .int B.2.2.2.2.2.2, .int laid, .int piled, .int prs, .int 1])), (z1, .inl (cI, 64, .inl hs)), (z2, .inl (cI, 64, .inl cs)), (z3, .inl (cI, 128, .inl fi)), (z4, .inl (cI, 128, .inl la)), (z5, .inl (cI, 128, .inl B.1)), (z6, .inl (cI, 128, .inl B.2.1)), (z7, .inl (cI, 128, .inl B.2.2.1)), (z8, .inl (cI, 128, .inl B.2.2.2.1)), (z9, .inl (cI, 64, .inl td))] H := hP
    have hD : va_D A [(mo, .inr (3, [.int col, .ref z1, .ref z2, .ref z3, .ref z4, .ref z5, .ref z6, .ref z7, .ref z8, .ref z9, .int lf, .int B.2.2.2.2.1, .int B.2.2.2.2.2.1, .int B.2.2.2.2.2.2, .int laid, .int piled, .int prs, .int 1])), (z1, .inl (cI, 64, .inl hs)), (z2, .inl (cI, 64, .inl cs)), (z3, .inl (cI, 128, .inl fi)), (z4, .inl (cI, 128, .inl la)), (z5, .inl (cI, 128, .inl B.1)), (z6, .inl (cI, 128, .inl B.2.1)), (z7, .inl (cI, 128, .inl B.2.2.1)), (z8, .inl (cI, 128, .inl B.2.2.2.1)), (z9, .inl (cI, 64, .inl td))] := hD
    refine W.eq (g2 := F0 m 17 ls [.int 0]) rfl ?_
    refine lv_if_eq (tgt := 29) hx hb dX3_heightOfColumn_17 (by decide) (fun _ => ?_) (fun c9 => absurd c9 (by decide))
    refine lv_iconst (v := 0) hx hb dX3_heightOfColumn_29 (by decide) ?_
    exact pq_iret hQ hx hb hr hlocks hK hS hP hD dX3_heightOfColumn_30 (by omega) (by omega) (by have hcd : cCol col x = 1 := (by rw [cCol, if_pos (Classical.not_not.mp b_2)]); exact Or.inl ⟨by rw [hcd]; decide, rfl, by rw [hcd] <;> rfl⟩)

set_option maxHeartbeats 4000000 in
set_option maxRecDepth 100000 in
theorem mX3_ceilingOver (l : Launch) (D : va_G) (cI : ClassId) (mo z1 z2 z3 z4 z5 z6 z7 z8 z9 : Nat) (col : Int32) (hs cs fi la : Nat → Int32) (B : BK) (td : Nat → Int32) (lf laid piled prs thr : Int32) (x : Int32) (N : Nat) (hN : col = nI N) (hN1 : 1 ≤ N) (hN2 : N ≤ 64) : pq_M l yX3_ceilingOver wsX3_ceilingOver 2 43 0 0 D [(cI, .int)] pq_0 (mdW mo z1 z2 z3 z4 z5 z6 z7 z8 z9 cI col hs cs fi la B td lf laid piled prs thr) [.ref mo, .int x] (fun v w1 => (cOver col cs x ≠ 0 ∧ v = some (.int 0) ∧ w1 = mdW mo z1 z2 z3 z4 z5 z6 z7 z8 z9 cI col hs cs fi la B td lf laid piled prs (cOver col cs x)) ∨ (∃ k, x = nI k ∧ k < N ∧ v = some (.int (cs k)) ∧ w1 = mdW mo z1 z2 z3 z4 z5 z6 z7 z8 z9 cI col hs cs fi la B td lf laid piled prs 0 ∧ cOver col cs x = 0)) := by
  refine pq_enter (cc := cX3_ceilingOver) (maxL := 2) (ret := (some .int)) (by decide) rfl (Nat.le_of_ble_eq_true rfl) ?_
  intro p ev s m args below meth cd A ls Q H locs hx hb hr hml hts hown hlocks hnm hK hP hD hS hA hE hl hQ
  have hl : lv_has ls 2 [(0, .ref mo), (1, .int x)] := hl
  have hP : va_P D vwCl [(mo, .inr (3, [.int col, .ref z1, .ref z2, .ref z3, .ref z4, .ref z5, .ref z6, .ref z7, .ref z8, .ref z9, .int lf, .int B.2.2.2.2.1, .int B.2.2.2.2.2.1, .int B.2.2.2.2.2.2, .int laid, .int piled, .int prs, .int thr])), (z1, .inl (cI, 64, .inl hs)), (z2, .inl (cI, 64, .inl cs)), (z3, .inl (cI, 128, .inl fi)), (z4, .inl (cI, 128, .inl la)), (z5, .inl (cI, 128, .inl B.1)), (z6, .inl (cI, 128, .inl B.2.1)), (z7, .inl (cI, 128, .inl B.2.2.1)), (z8, .inl (cI, 128, .inl B.2.2.2.1)), (z9, .inl (cI, 64, .inl td))] H := hP
  have hD : va_D A [(mo, .inr (3, [.int col, .ref z1, .ref z2, .ref z3, .ref z4, .ref z5, .ref z6, .ref z7, .ref z8, .ref z9, .int lf, .int B.2.2.2.2.1, .int B.2.2.2.2.2.1, .int B.2.2.2.2.2.2, .int laid, .int piled, .int prs, .int thr])), (z1, .inl (cI, 64, .inl hs)), (z2, .inl (cI, 64, .inl cs)), (z3, .inl (cI, 128, .inl fi)), (z4, .inl (cI, 128, .inl la)), (z5, .inl (cI, 128, .inl B.1)), (z6, .inl (cI, 128, .inl B.2.1)), (z7, .inl (cI, 128, .inl B.2.2.1)), (z8, .inl (cI, 128, .inl B.2.2.2.1)), (z9, .inl (cI, 64, .inl td))] := hD
  have hin_X3 : ∀ w ∈ wsX30, w ∈ wsX3_ceilingOver := by decide +kernel
  have hf_PressedPlainsModel_13 := hts (.fieldLink RX3 13 "PressedPlainsModel" "ceiling" "[I") (by decide +kernel)
  refine lv_aload_n hx hb dX3_ceilingOver_0 rfl (lv_at hl 0 rfl) ?_
  refine lv_aload_n hx hb dX3_ceilingOver_1 rfl (lv_at hl 0 rfl) ?_
  refine lv_iload_n hx hb dX3_ceilingOver_2 rfl (lv_at hl 1 rfl) ?_
  refine pq_callV (wr := []) (own := RX3) (nL := 2) (q0 := 0) (ci := 3) [0, 1, 2, 3, 4, 5, 6, 7, 8, 9] [] [.int x] (mX3_isColumn l D cI mo z1 z2 z3 z4 z5 z6 z7 z8 z9 col hs cs fi la B td lf laid piled prs thr x N hN hN1 hN2) ⟨hx, hb, hml, hown, hts⟩ (cwV 1 hts gX3_ceilingOver_X3_isColumn rfl rfl rfl (by decide +kernel) ⟨by dsimp only [pq_R]; omega, by dsimp only [pq_R]; omega⟩) pq_bl0 (fun _ _ _ => trivial) hK hP hD hS hA rfl (by decide) rfl (by decide) (by decide) rfl rfl rfl rfl hl.1 rfl (Nat.le_of_ble_eq_true rfl) dX3_ceilingOver_3 ⟨by dsimp only [pq_R]; omega, by dsimp only [pq_R]; omega⟩ (fun v w1 H locs hq hP hD hS hz => ?_)
  obtain ⟨rfl, rfl⟩ := hq
  have hP : va_P D vwCl [(mo, .inr (3, [.int col, .ref z1, .ref z2, .ref z3, .ref z4, .ref z5, .ref z6, .ref z7, .ref z8, .ref z9, .int lf, .int B.2.2.2.2.1, .int B.2.2.2.2.2.1, .int B.2.2.2.2.2.2, .int laid, .int piled, .int prs, .int thr])), (z1, .inl (cI, 64, .inl hs)), (z2, .inl (cI, 64, .inl cs)), (z3, .inl (cI, 128, .inl fi)), (z4, .inl (cI, 128, .inl la)), (z5, .inl (cI, 128, .inl B.1)), (z6, .inl (cI, 128, .inl B.2.1)), (z7, .inl (cI, 128, .inl B.2.2.1)), (z8, .inl (cI, 128, .inl B.2.2.2.1)), (z9, .inl (cI, 64, .inl td))] H := hP
  have hD : va_D A [(mo, .inr (3, [.int col, .ref z1, .ref z2, .ref z3, .ref z4, .ref z5, .ref z6, .ref z7, .ref z8, .ref z9, .int lf, .int B.2.2.2.2.1, .int B.2.2.2.2.2.1, .int B.2.2.2.2.2.2, .int laid, .int piled, .int prs, .int thr])), (z1, .inl (cI, 64, .inl hs)), (z2, .inl (cI, 64, .inl cs)), (z3, .inl (cI, 128, .inl fi)), (z4, .inl (cI, 128, .inl la)), (z5, .inl (cI, 128, .inl B.1)), (z6, .inl (cI, 128, .inl B.2.1)), (z7, .inl (cI, 128, .inl B.2.2.1)), (z8, .inl (cI, 128, .inl B.2.2.2.1)), (z9, .inl (cI, 64, .inl td))] := hD
  by_cases b_2 : ¬ bCol col x
  · rw [if_pos b_2]
    refine W.eq (g2 := F0 m 6 ls [.int 1, .ref mo]) rfl ?_
    refine lv_if_ne (tgt := 13) hx hb dX3_ceilingOver_6 (by decide) (fun _ => ?_) (fun c9 => absurd c9 (by decide))
    have hcx : ¬ bCol col x := b_2
    obtain ⟨kx, hkx, rfl⟩ := colN hcx hN hN2
    refine lv_aload_n hx hb dX3_ceilingOver_13 rfl (lv_at hl 0 rfl) ?_
    refine va_get (D := D) (ci := 3) (v := .ref z2) (C := RX3) (T := TX3) (N := 18) hx hb hts hin_X3 hown hK hP 0 rfl rfl 2 (by decide) hf_PressedPlainsModel_13 (fun _ h9 => h9) rfl dX3_ceilingOver_14 ?_
    refine lv_iload_n hx hb dX3_ceilingOver_17 rfl (lv_at hl 1 rfl) ?_
    refine pq_iald hx hb hK hP 2 0 rfl rfl kx (by omega) (by decide) dX3_ceilingOver_18 ?_
    refine lv_iconst (v := (-1)) hx hb dX3_ceilingOver_19 (by decide) ?_
    refine lv_icmp_ne (tgt := 27) hx hb dX3_ceilingOver_20 (by decide) (fun c_3 => ?_) (fun c_3 => ?_)
    · refine lv_iconst (v := 0) hx hb dX3_ceilingOver_27 (by decide) ?_
      refine pq_callV (wr := []) (own := RX3) (nL := 2) (q0 := 0) (ci := 3) [0, 1, 2, 3, 4, 5, 6, 7, 8, 9] [] [.int 0] (mX3_isFine l D cI mo z1 z2 z3 z4 z5 z6 z7 z8 z9 col hs cs fi la B td lf laid piled prs thr 0) ⟨hx, hb, hml, hown, hts⟩ (cwV 1 hts gX3_ceilingOver_X3_isFine rfl rfl rfl (by decide +kernel) ⟨by dsimp only [pq_R]; omega, by dsimp only [pq_R]; omega⟩) pq_bl0 (fun _ _ _ => trivial) hK hP hD hS hA rfl (by decide) rfl (by decide) (by decide) rfl rfl rfl rfl hl.1 rfl (Nat.le_of_ble_eq_true rfl) dX3_ceilingOver_28 ⟨by dsimp only [pq_R]; omega, by dsimp only [pq_R]; omega⟩ (fun v w1 H locs hq hP hD hS hz => ?_)
      obtain ⟨rfl, rfl⟩ := hq
      rw [if_pos rfl]
      have hP : va_P D vwCl [(mo, .inr (3, [.int col, .ref z1, .ref z2, .ref z3, .ref z4, .ref z5, .ref z6, .ref z7, .ref z8, .ref z9, .int lf, .int B.2.2.2.2.1, .int B.2.2.2.2.2.1, .int B.2.2.2.2.2.2, .int laid, .int piled, .int prs, .int 0])), (z1, .inl (cI, 64, .inl hs)), (z2, .inl (cI, 64, .inl cs)), (z3, .inl (cI, 128, .inl fi)), (z4, .inl (cI, 128, .inl la)), (z5, .inl (cI, 128, .inl B.1)), (z6, .inl (cI, 128, .inl B.2.1)), (z7, .inl (cI, 128, .inl B.2.2.1)), (z8, .inl (cI, 128, .inl B.2.2.2.1)), (z9, .inl (cI, 64, .inl td))] H := hP
      have hD : va_D A [(mo, .inr (3, [.int col, .ref z1, .ref z2, .ref z3, .ref z4, .ref z5, .ref z6, .ref z7, .ref z8, .ref z9, .int lf, .int B.2.2.2.2.1, .int B.2.2.2.2.2.1, .int B.2.2.2.2.2.2, .int laid, .int piled, .int prs, .int 0])), (z1, .inl (cI, 64, .inl hs)), (z2, .inl (cI, 64, .inl cs)), (z3, .inl (cI, 128, .inl fi)), (z4, .inl (cI, 128, .inl la)), (z5, .inl (cI, 128, .inl B.1)), (z6, .inl (cI, 128, .inl B.2.1)), (z7, .inl (cI, 128, .inl B.2.2.1)), (z8, .inl (cI, 128, .inl B.2.2.2.1)), (z9, .inl (cI, 64, .inl td))] := hD
      refine W.eq (g2 := F0 m 31 ls [.int 1]) rfl ?_
      refine lv_if_eq (tgt := 43) hx hb dX3_ceilingOver_31 (by decide) (fun c9 => absurd c9 (by decide)) (fun _ => ?_)
      refine lv_aload_n hx hb dX3_ceilingOver_34 rfl (lv_at hl 0 rfl) ?_
      refine va_get (D := D) (ci := 3) (v := .ref z2) (C := RX3) (T := TX3) (N := 18) hx hb hts hin_X3 hown hK hP 0 rfl rfl 2 (by decide) hf_PressedPlainsModel_13 (fun _ h9 => h9) rfl dX3_ceilingOver_35 ?_
      refine lv_iload_n hx hb dX3_ceilingOver_38 rfl (lv_at hl 1 rfl) ?_
      refine pq_iald hx hb hK hP 2 0 rfl rfl kx (by omega) (by decide) dX3_ceilingOver_39 ?_
      refine lv_goto (tgt := 44) hx hb dX3_ceilingOver_40 (by decide) ?_
      exact pq_iret hQ hx hb hr hlocks hK hS hP hD dX3_ceilingOver_44 (by omega) (by omega) (Or.inr ⟨kx, rfl, hkx, rfl, rfl, cl_over (by omega) hcx c_3⟩)
    · refine lv_iconst (v := 2) hx hb dX3_ceilingOver_23 (by decide) ?_
      refine lv_goto (tgt := 28) hx hb dX3_ceilingOver_24 (by decide) ?_
      refine pq_callV (wr := []) (own := RX3) (nL := 2) (q0 := 0) (ci := 3) [0, 1, 2, 3, 4, 5, 6, 7, 8, 9] [] [.int 2] (mX3_isFine l D cI mo z1 z2 z3 z4 z5 z6 z7 z8 z9 col hs cs fi la B td lf laid piled prs thr 2) ⟨hx, hb, hml, hown, hts⟩ (cwV 1 hts gX3_ceilingOver_X3_isFine rfl rfl rfl (by decide +kernel) ⟨by dsimp only [pq_R]; omega, by dsimp only [pq_R]; omega⟩) pq_bl0 (fun _ _ _ => trivial) hK hP hD hS hA rfl (by decide) rfl (by decide) (by decide) rfl rfl rfl rfl hl.1 rfl (Nat.le_of_ble_eq_true rfl) dX3_ceilingOver_28 ⟨by dsimp only [pq_R]; omega, by dsimp only [pq_R]; omega⟩ (fun v w1 H locs hq hP hD hS hz => ?_)
      obtain ⟨rfl, rfl⟩ := hq
      rw [if_neg (show ¬ (2 : Int32) = 0 by decide)]
      have hP : va_P D vwCl [(mo, .inr (3, [.int col, .ref z1, .ref z2, .ref z3, .ref z4, .ref z5, .ref z6, .ref z7, .ref z8, .ref z9, .int lf, .int B.2.2.2.2.1, .int B.2.2.2.2.2.1, .int B.2.2.2.2.2.2, .int laid, .int piled, .int prs, .int 2])), (z1, .inl (cI, 64, .inl hs)), (z2, .inl (cI, 64, .inl cs)), (z3, .inl (cI, 128, .inl fi)), (z4, .inl (cI, 128, .inl la)), (z5, .inl (cI, 128, .inl B.1)), (z6, .inl (cI, 128, .inl B.2.1)), (z7, .inl (cI, 128, .inl B.2.2.1)), (z8, .inl (cI, 128, .inl B.2.2.2.1)), (z9, .inl (cI, 64, .inl td))] H := hP
      have hD : va_D A [(mo, .inr (3, [.int col, .ref z1, .ref z2, .ref z3, .ref z4, .ref z5, .ref z6, .ref z7, .ref z8, .ref z9, .int lf, .int B.2.2.2.2.1, .int B.2.2.2.2.2.1, .int B.2.2.2.2.2.2, .int laid, .int piled, .int prs, .int 2])), (z1, .inl (cI, 64, .inl hs)), (z2, .inl (cI, 64, .inl cs)), (z3, .inl (cI, 128, .inl fi)), (z4, .inl (cI, 128, .inl la)), (z5, .inl (cI, 128, .inl B.1)), (z6, .inl (cI, 128, .inl B.2.1)), (z7, .inl (cI, 128, .inl B.2.2.1)), (z8, .inl (cI, 128, .inl B.2.2.2.1)), (z9, .inl (cI, 64, .inl td))] := hD
      refine W.eq (g2 := F0 m 31 ls [.int 0]) rfl ?_
      refine lv_if_eq (tgt := 43) hx hb dX3_ceilingOver_31 (by decide) (fun _ => ?_) (fun c9 => absurd c9 (by decide))
      refine lv_iconst (v := 0) hx hb dX3_ceilingOver_43 (by decide) ?_
      exact pq_iret hQ hx hb hr hlocks hK hS hP hD dX3_ceilingOver_44 (by omega) (by omega) (by have hcd : cOver col cs (nI kx) = 2 := (by rw [cOver, if_neg hcx, nI_clamp (by omega), if_pos c_3]); exact Or.inl ⟨by rw [hcd]; decide, rfl, by rw [hcd] <;> rfl⟩)
  · rw [if_neg b_2]
    refine W.eq (g2 := F0 m 6 ls [.int 0, .ref mo]) rfl ?_
    refine lv_if_ne (tgt := 13) hx hb dX3_ceilingOver_6 (by decide) (fun c9 => absurd c9 (by decide)) (fun _ => ?_)
    refine lv_iconst (v := 1) hx hb dX3_ceilingOver_9 (by decide) ?_
    refine lv_goto (tgt := 28) hx hb dX3_ceilingOver_10 (by decide) ?_
    refine pq_callV (wr := []) (own := RX3) (nL := 2) (q0 := 0) (ci := 3) [0, 1, 2, 3, 4, 5, 6, 7, 8, 9] [] [.int 1] (mX3_isFine l D cI mo z1 z2 z3 z4 z5 z6 z7 z8 z9 col hs cs fi la B td lf laid piled prs thr 1) ⟨hx, hb, hml, hown, hts⟩ (cwV 1 hts gX3_ceilingOver_X3_isFine rfl rfl rfl (by decide +kernel) ⟨by dsimp only [pq_R]; omega, by dsimp only [pq_R]; omega⟩) pq_bl0 (fun _ _ _ => trivial) hK hP hD hS hA rfl (by decide) rfl (by decide) (by decide) rfl rfl rfl rfl hl.1 rfl (Nat.le_of_ble_eq_true rfl) dX3_ceilingOver_28 ⟨by dsimp only [pq_R]; omega, by dsimp only [pq_R]; omega⟩ (fun v w1 H locs hq hP hD hS hz => ?_)
    obtain ⟨rfl, rfl⟩ := hq
    rw [if_neg (show ¬ (1 : Int32) = 0 by decide)]
    have hP : va_P D vwCl [(mo, .inr (3, [.int col, .ref z1, .ref z2, .ref z3, .ref z4, .ref z5, .ref z6, .ref z7, .ref z8, .ref z9, .int lf, .int B.2.2.2.2.1, .int B.2.2.2.2.2.1, .int B.2.2.2.2.2.2, .int laid, .int piled, .int prs, .int 1])), (z1, .inl (cI, 64, .inl hs)), (z2, .inl (cI, 64, .inl cs)), (z3, .inl (cI, 128, .inl fi)), (z4, .inl (cI, 128, .inl la)), (z5, .inl (cI, 128, .inl B.1)), (z6, .inl (cI, 128, .inl B.2.1)), (z7, .inl (cI, 128, .inl B.2.2.1)), (z8, .inl (cI, 128, .inl B.2.2.2.1)), (z9, .inl (cI, 64, .inl td))] H := hP
    have hD : va_D A [(mo, .inr (3, [.int col, .ref z1, .ref z2, .ref z3, .ref z4, .ref z5, .ref z6, .ref z7, .ref z8, .ref z9, .int lf, .int B.2.2.2.2.1, .int B.2.2.2.2.2.1, .int B.2.2.2.2.2.2, .int laid, .int piled, .int prs, .int 1])), (z1, .inl (cI, 64, .inl hs)), (z2, .inl (cI, 64, .inl cs)), (z3, .inl (cI, 128, .inl fi)), (z4, .inl (cI, 128, .inl la)), (z5, .inl (cI, 128, .inl B.1)), (z6, .inl (cI, 128, .inl B.2.1)), (z7, .inl (cI, 128, .inl B.2.2.1)), (z8, .inl (cI, 128, .inl B.2.2.2.1)), (z9, .inl (cI, 64, .inl td))] := hD
    refine W.eq (g2 := F0 m 31 ls [.int 0]) rfl ?_
    refine lv_if_eq (tgt := 43) hx hb dX3_ceilingOver_31 (by decide) (fun _ => ?_) (fun c9 => absurd c9 (by decide))
    refine lv_iconst (v := 0) hx hb dX3_ceilingOver_43 (by decide) ?_
    exact pq_iret hQ hx hb hr hlocks hK hS hP hD dX3_ceilingOver_44 (by omega) (by omega) (by have hcd : cOver col cs x = 1 := (by rw [cOver, if_pos (Classical.not_not.mp b_2)]); exact Or.inl ⟨by rw [hcd]; decide, rfl, by rw [hcd] <;> rfl⟩)

set_option maxHeartbeats 4000000 in
set_option maxRecDepth 100000 in
theorem mX3_isEntry (l : Launch) (D : va_G) (cI : ClassId) (mo z1 z2 z3 z4 z5 z6 z7 z8 z9 : Nat) (col : Int32) (hs cs fi la : Nat → Int32) (B : BK) (td : Nat → Int32) (lf laid piled prs thr : Int32) (x : Int32) : pq_M l yX3_isEntry wsX3_isEntry 1 22 0 0 D [(cI, .int)] pq_0 (mdW mo z1 z2 z3 z4 z5 z6 z7 z8 z9 cI col hs cs fi la B td lf laid piled prs thr) [.ref mo, .int x] (fun v w1 => (mEnt fi x ∧ v = some (.int 1) ∧ w1 = mdW mo z1 z2 z3 z4 z5 z6 z7 z8 z9 cI col hs cs fi la B td lf laid piled prs 0) ∨ (¬ mEnt fi x ∧ v = some (.int 0) ∧ w1 = mdW mo z1 z2 z3 z4 z5 z6 z7 z8 z9 cI col hs cs fi la B td lf laid piled prs 1)) := by
  refine pq_enter (cc := cX3_isEntry) (maxL := 2) (ret := (some .boolean)) (by decide) rfl (Nat.le_of_ble_eq_true rfl) ?_
  intro p ev s m args below meth cd A ls Q H locs hx hb hr hml hts hown hlocks hnm hK hP hD hS hA hE hl hQ
  have hl : lv_has ls 2 [(0, .ref mo), (1, .int x)] := hl
  have hP : va_P D vwCl [(mo, .inr (3, [.int col, .ref z1, .ref z2, .ref z3, .ref z4, .ref z5, .ref z6, .ref z7, .ref z8, .ref z9, .int lf, .int B.2.2.2.2.1, .int B.2.2.2.2.2.1, .int B.2.2.2.2.2.2, .int laid, .int piled, .int prs, .int thr])), (z1, .inl (cI, 64, .inl hs)), (z2, .inl (cI, 64, .inl cs)), (z3, .inl (cI, 128, .inl fi)), (z4, .inl (cI, 128, .inl la)), (z5, .inl (cI, 128, .inl B.1)), (z6, .inl (cI, 128, .inl B.2.1)), (z7, .inl (cI, 128, .inl B.2.2.1)), (z8, .inl (cI, 128, .inl B.2.2.2.1)), (z9, .inl (cI, 64, .inl td))] H := hP
  have hD : va_D A [(mo, .inr (3, [.int col, .ref z1, .ref z2, .ref z3, .ref z4, .ref z5, .ref z6, .ref z7, .ref z8, .ref z9, .int lf, .int B.2.2.2.2.1, .int B.2.2.2.2.2.1, .int B.2.2.2.2.2.2, .int laid, .int piled, .int prs, .int thr])), (z1, .inl (cI, 64, .inl hs)), (z2, .inl (cI, 64, .inl cs)), (z3, .inl (cI, 128, .inl fi)), (z4, .inl (cI, 128, .inl la)), (z5, .inl (cI, 128, .inl B.1)), (z6, .inl (cI, 128, .inl B.2.1)), (z7, .inl (cI, 128, .inl B.2.2.1)), (z8, .inl (cI, 128, .inl B.2.2.2.1)), (z9, .inl (cI, 64, .inl td))] := hD
  have hin_X3 : ∀ w ∈ wsX30, w ∈ wsX3_isEntry := by decide +kernel
  have hf_PressedPlainsModel_16 := hts (.fieldLink RX3 16 "PressedPlainsModel" "first" "[I") (by decide +kernel)
  refine lv_aload_n hx hb dX3_isEntry_0 rfl (lv_at hl 0 rfl) ?_
  refine lv_iload_n hx hb dX3_isEntry_1 rfl (lv_at hl 1 rfl) ?_
  refine lv_iconst (v := 1) hx hb dX3_isEntry_2 (by decide) ?_
  refine lv_bipush (v := 127) hx hb dX3_isEntry_3 (by decide) ?_
  refine pq_callS (wr := [(mo, .inr (3, [.int col, .ref z1, .ref z2, .ref z3, .ref z4, .ref z5, .ref z6, .ref z7, .ref z8, .ref z9, .int lf, .int B.2.2.2.2.1, .int B.2.2.2.2.2.1, .int B.2.2.2.2.2.2, .int laid, .int piled, .int prs, .int thr])), (z1, .inl (cI, 64, .inl hs)), (z2, .inl (cI, 64, .inl cs)), (z3, .inl (cI, 128, .inl fi)), (z4, .inl (cI, 128, .inl la)), (z5, .inl (cI, 128, .inl B.1)), (z6, .inl (cI, 128, .inl B.2.1)), (z7, .inl (cI, 128, .inl B.2.2.1)), (z8, .inl (cI, 128, .inl B.2.2.2.1)), (z9, .inl (cI, 64, .inl td))]) (own := RX3) (nL := 2) [] [0, 1, 2, 3, 4, 5, 6, 7, 8, 9] [.int x, .int 1, .int 127] (mX3_in l D cI  x 1 127) ⟨hx, hb, hml, hown, hts⟩ (va_cwS 3 hts gX3_isEntry_X3_in rfl rfl rfl (by decide +kernel) ⟨by dsimp only [pq_R]; omega, by dsimp only [pq_R]; omega⟩) pq_bl0 (fun _ _ _ => trivial) hK hP hD hS hA rfl (by decide) rfl (by decide) (by decide) rfl hl.1 rfl (Nat.le_of_ble_eq_true rfl) dX3_isEntry_5 ⟨by dsimp only [pq_R]; omega, by dsimp only [pq_R]; omega⟩ (fun v w1 H locs hq hP hD hS hz => ?_)
  obtain ⟨rfl, rfl⟩ := hq
  have hP : va_P D vwCl [(mo, .inr (3, [.int col, .ref z1, .ref z2, .ref z3, .ref z4, .ref z5, .ref z6, .ref z7, .ref z8, .ref z9, .int lf, .int B.2.2.2.2.1, .int B.2.2.2.2.2.1, .int B.2.2.2.2.2.2, .int laid, .int piled, .int prs, .int thr])), (z1, .inl (cI, 64, .inl hs)), (z2, .inl (cI, 64, .inl cs)), (z3, .inl (cI, 128, .inl fi)), (z4, .inl (cI, 128, .inl la)), (z5, .inl (cI, 128, .inl B.1)), (z6, .inl (cI, 128, .inl B.2.1)), (z7, .inl (cI, 128, .inl B.2.2.1)), (z8, .inl (cI, 128, .inl B.2.2.2.1)), (z9, .inl (cI, 64, .inl td))] H := hP
  have hD : va_D A [(mo, .inr (3, [.int col, .ref z1, .ref z2, .ref z3, .ref z4, .ref z5, .ref z6, .ref z7, .ref z8, .ref z9, .int lf, .int B.2.2.2.2.1, .int B.2.2.2.2.2.1, .int B.2.2.2.2.2.2, .int laid, .int piled, .int prs, .int thr])), (z1, .inl (cI, 64, .inl hs)), (z2, .inl (cI, 64, .inl cs)), (z3, .inl (cI, 128, .inl fi)), (z4, .inl (cI, 128, .inl la)), (z5, .inl (cI, 128, .inl B.1)), (z6, .inl (cI, 128, .inl B.2.1)), (z7, .inl (cI, 128, .inl B.2.2.1)), (z8, .inl (cI, 128, .inl B.2.2.2.1)), (z9, .inl (cI, 64, .inl td))] := hD
  by_cases b_2 : ¬ bRng x 1 127
  · rw [if_pos b_2]
    refine W.eq (g2 := F0 m 8 ls [.int 1, .ref mo]) rfl ?_
    refine lv_if_eq (tgt := 38) hx hb dX3_isEntry_8 (by decide) (fun c9 => absurd c9 (by decide)) (fun _ => ?_)
    have hrx : ¬ bRng x 1 127 := b_2
    obtain ⟨ke, hke1, hke2, rfl⟩ := entM hrx
    refine lv_aload_n hx hb dX3_isEntry_11 rfl (lv_at hl 0 rfl) ?_
    refine va_get (D := D) (ci := 3) (v := .ref z3) (C := RX3) (T := TX3) (N := 18) hx hb hts hin_X3 hown hK hP 0 rfl rfl 3 (by decide) hf_PressedPlainsModel_16 (fun _ h9 => h9) rfl dX3_isEntry_12 ?_
    refine lv_iload_n hx hb dX3_isEntry_15 rfl (lv_at hl 1 rfl) ?_
    refine lv_iconst (v := 1) hx hb dX3_isEntry_16 (by decide) ?_
    refine lv_bipush (v := 127) hx hb dX3_isEntry_17 (by decide) ?_
    refine pq_callS (wr := [(mo, .inr (3, [.int col, .ref z1, .ref z2, .ref z3, .ref z4, .ref z5, .ref z6, .ref z7, .ref z8, .ref z9, .int lf, .int B.2.2.2.2.1, .int B.2.2.2.2.2.1, .int B.2.2.2.2.2.2, .int laid, .int piled, .int prs, .int thr])), (z1, .inl (cI, 64, .inl hs)), (z2, .inl (cI, 64, .inl cs)), (z3, .inl (cI, 128, .inl fi)), (z4, .inl (cI, 128, .inl la)), (z5, .inl (cI, 128, .inl B.1)), (z6, .inl (cI, 128, .inl B.2.1)), (z7, .inl (cI, 128, .inl B.2.2.1)), (z8, .inl (cI, 128, .inl B.2.2.2.1)), (z9, .inl (cI, 64, .inl td))]) (own := RX3) (nL := 2) [] [0, 1, 2, 3, 4, 5, 6, 7, 8, 9] [.int (nI ke), .int 1, .int 127] (mX3_in l D cI  (nI ke) 1 127) ⟨hx, hb, hml, hown, hts⟩ (va_cwS 3 hts gX3_isEntry_X3_in rfl rfl rfl (by decide +kernel) ⟨by dsimp only [pq_R]; omega, by dsimp only [pq_R]; omega⟩) pq_bl0 (fun _ _ _ => trivial) hK hP hD hS hA rfl (by decide) rfl (by decide) (by decide) rfl hl.1 rfl (Nat.le_of_ble_eq_true rfl) dX3_isEntry_19 ⟨by dsimp only [pq_R]; omega, by dsimp only [pq_R]; omega⟩ (fun v w1 H locs hq hP hD hS hz => ?_)
    obtain ⟨rfl, rfl⟩ := hq
    have hP : va_P D vwCl [(mo, .inr (3, [.int col, .ref z1, .ref z2, .ref z3, .ref z4, .ref z5, .ref z6, .ref z7, .ref z8, .ref z9, .int lf, .int B.2.2.2.2.1, .int B.2.2.2.2.2.1, .int B.2.2.2.2.2.2, .int laid, .int piled, .int prs, .int thr])), (z1, .inl (cI, 64, .inl hs)), (z2, .inl (cI, 64, .inl cs)), (z3, .inl (cI, 128, .inl fi)), (z4, .inl (cI, 128, .inl la)), (z5, .inl (cI, 128, .inl B.1)), (z6, .inl (cI, 128, .inl B.2.1)), (z7, .inl (cI, 128, .inl B.2.2.1)), (z8, .inl (cI, 128, .inl B.2.2.2.1)), (z9, .inl (cI, 64, .inl td))] H := hP
    have hD : va_D A [(mo, .inr (3, [.int col, .ref z1, .ref z2, .ref z3, .ref z4, .ref z5, .ref z6, .ref z7, .ref z8, .ref z9, .int lf, .int B.2.2.2.2.1, .int B.2.2.2.2.2.1, .int B.2.2.2.2.2.2, .int laid, .int piled, .int prs, .int thr])), (z1, .inl (cI, 64, .inl hs)), (z2, .inl (cI, 64, .inl cs)), (z3, .inl (cI, 128, .inl fi)), (z4, .inl (cI, 128, .inl la)), (z5, .inl (cI, 128, .inl B.1)), (z6, .inl (cI, 128, .inl B.2.1)), (z7, .inl (cI, 128, .inl B.2.2.1)), (z8, .inl (cI, 128, .inl B.2.2.2.1)), (z9, .inl (cI, 64, .inl td))] := hD
    by_cases b_4 : ¬ bRng (nI ke) 1 127
    · rw [if_pos b_4]
      refine W.eq (g2 := F0 m 22 ls [.int 1, .ref z3, .ref mo]) rfl ?_
      refine lv_if_eq (tgt := 29) hx hb dX3_isEntry_22 (by decide) (fun c9 => absurd c9 (by decide)) (fun _ => ?_)
      refine lv_iload_n hx hb dX3_isEntry_25 rfl (lv_at hl 1 rfl) ?_
      refine lv_goto (tgt := 30) hx hb dX3_isEntry_26 (by decide) ?_
      refine pq_iald hx hb hK hP 3 0 rfl rfl ke (by omega) (by decide) dX3_isEntry_30 ?_
      refine lv_if_lt (tgt := 38) hx hb dX3_isEntry_31 (by decide) (fun c_5 => ?_) (fun c_5 => ?_)
      · refine lv_iconst (v := 1) hx hb dX3_isEntry_38 (by decide) ?_
        refine pq_callV (wr := []) (own := RX3) (nL := 2) (q0 := 0) (ci := 3) [0, 1, 2, 3, 4, 5, 6, 7, 8, 9] [] [.int 1] (mX3_isFine l D cI mo z1 z2 z3 z4 z5 z6 z7 z8 z9 col hs cs fi la B td lf laid piled prs thr 1) ⟨hx, hb, hml, hown, hts⟩ (cwV 1 hts gX3_isEntry_X3_isFine rfl rfl rfl (by decide +kernel) ⟨by dsimp only [pq_R]; omega, by dsimp only [pq_R]; omega⟩) pq_bl0 (fun _ _ _ => trivial) hK hP hD hS hA rfl (by decide) rfl (by decide) (by decide) rfl rfl rfl rfl hl.1 rfl (Nat.le_of_ble_eq_true rfl) dX3_isEntry_39 ⟨by dsimp only [pq_R]; omega, by dsimp only [pq_R]; omega⟩ (fun v w1 H locs hq hP hD hS hz => ?_)
        obtain ⟨rfl, rfl⟩ := hq
        rw [if_neg (show ¬ (1 : Int32) = 0 by decide)]
        have hP : va_P D vwCl [(mo, .inr (3, [.int col, .ref z1, .ref z2, .ref z3, .ref z4, .ref z5, .ref z6, .ref z7, .ref z8, .ref z9, .int lf, .int B.2.2.2.2.1, .int B.2.2.2.2.2.1, .int B.2.2.2.2.2.2, .int laid, .int piled, .int prs, .int 1])), (z1, .inl (cI, 64, .inl hs)), (z2, .inl (cI, 64, .inl cs)), (z3, .inl (cI, 128, .inl fi)), (z4, .inl (cI, 128, .inl la)), (z5, .inl (cI, 128, .inl B.1)), (z6, .inl (cI, 128, .inl B.2.1)), (z7, .inl (cI, 128, .inl B.2.2.1)), (z8, .inl (cI, 128, .inl B.2.2.2.1)), (z9, .inl (cI, 64, .inl td))] H := hP
        have hD : va_D A [(mo, .inr (3, [.int col, .ref z1, .ref z2, .ref z3, .ref z4, .ref z5, .ref z6, .ref z7, .ref z8, .ref z9, .int lf, .int B.2.2.2.2.1, .int B.2.2.2.2.2.1, .int B.2.2.2.2.2.2, .int laid, .int piled, .int prs, .int 1])), (z1, .inl (cI, 64, .inl hs)), (z2, .inl (cI, 64, .inl cs)), (z3, .inl (cI, 128, .inl fi)), (z4, .inl (cI, 128, .inl la)), (z5, .inl (cI, 128, .inl B.1)), (z6, .inl (cI, 128, .inl B.2.1)), (z7, .inl (cI, 128, .inl B.2.2.1)), (z8, .inl (cI, 128, .inl B.2.2.2.1)), (z9, .inl (cI, 64, .inl td))] := hD
        refine W.eq (g2 := F0 m 42 ls [.int 0]) rfl ?_
        exact pq_zret hQ hx hb hr hlocks hK hS hP hD dX3_isEntry_42 (by omega) (by omega) (by decide) (Or.inr ⟨fun h => h.2 (by rw [nI_clamp (by omega)]; exact c_5), rfl, rfl⟩)
      · refine lv_iconst (v := 0) hx hb dX3_isEntry_34 (by decide) ?_
        refine lv_goto (tgt := 39) hx hb dX3_isEntry_35 (by decide) ?_
        refine pq_callV (wr := []) (own := RX3) (nL := 2) (q0 := 0) (ci := 3) [0, 1, 2, 3, 4, 5, 6, 7, 8, 9] [] [.int 0] (mX3_isFine l D cI mo z1 z2 z3 z4 z5 z6 z7 z8 z9 col hs cs fi la B td lf laid piled prs thr 0) ⟨hx, hb, hml, hown, hts⟩ (cwV 1 hts gX3_isEntry_X3_isFine rfl rfl rfl (by decide +kernel) ⟨by dsimp only [pq_R]; omega, by dsimp only [pq_R]; omega⟩) pq_bl0 (fun _ _ _ => trivial) hK hP hD hS hA rfl (by decide) rfl (by decide) (by decide) rfl rfl rfl rfl hl.1 rfl (Nat.le_of_ble_eq_true rfl) dX3_isEntry_39 ⟨by dsimp only [pq_R]; omega, by dsimp only [pq_R]; omega⟩ (fun v w1 H locs hq hP hD hS hz => ?_)
        obtain ⟨rfl, rfl⟩ := hq
        rw [if_pos rfl]
        have hP : va_P D vwCl [(mo, .inr (3, [.int col, .ref z1, .ref z2, .ref z3, .ref z4, .ref z5, .ref z6, .ref z7, .ref z8, .ref z9, .int lf, .int B.2.2.2.2.1, .int B.2.2.2.2.2.1, .int B.2.2.2.2.2.2, .int laid, .int piled, .int prs, .int 0])), (z1, .inl (cI, 64, .inl hs)), (z2, .inl (cI, 64, .inl cs)), (z3, .inl (cI, 128, .inl fi)), (z4, .inl (cI, 128, .inl la)), (z5, .inl (cI, 128, .inl B.1)), (z6, .inl (cI, 128, .inl B.2.1)), (z7, .inl (cI, 128, .inl B.2.2.1)), (z8, .inl (cI, 128, .inl B.2.2.2.1)), (z9, .inl (cI, 64, .inl td))] H := hP
        have hD : va_D A [(mo, .inr (3, [.int col, .ref z1, .ref z2, .ref z3, .ref z4, .ref z5, .ref z6, .ref z7, .ref z8, .ref z9, .int lf, .int B.2.2.2.2.1, .int B.2.2.2.2.2.1, .int B.2.2.2.2.2.2, .int laid, .int piled, .int prs, .int 0])), (z1, .inl (cI, 64, .inl hs)), (z2, .inl (cI, 64, .inl cs)), (z3, .inl (cI, 128, .inl fi)), (z4, .inl (cI, 128, .inl la)), (z5, .inl (cI, 128, .inl B.1)), (z6, .inl (cI, 128, .inl B.2.1)), (z7, .inl (cI, 128, .inl B.2.2.1)), (z8, .inl (cI, 128, .inl B.2.2.2.1)), (z9, .inl (cI, 64, .inl td))] := hD
        refine W.eq (g2 := F0 m 42 ls [.int 1]) rfl ?_
        exact pq_zret hQ hx hb hr hlocks hK hS hP hD dX3_isEntry_42 (by omega) (by omega) (by decide) (Or.inl ⟨⟨hrx, by rw [nI_clamp (by omega)]; exact c_5⟩, rfl, rfl⟩)
    · rw [if_neg b_4]
      refine W.eq (g2 := F0 m 22 ls [.int 0, .ref z3, .ref mo]) rfl ?_
      refine lv_if_eq (tgt := 29) hx hb dX3_isEntry_22 (by decide) (fun _ => ?_) (fun c9 => absurd c9 (by decide))
      refine lv_iconst (v := 1) hx hb dX3_isEntry_29 (by decide) ?_
      refine pq_iald hx hb hK hP 3 0 rfl rfl 1 (by omega) (by decide) dX3_isEntry_30 ?_
      refine lv_if_lt (tgt := 38) hx hb dX3_isEntry_31 (by decide) (fun c_8 => ?_) (fun c_8 => ?_)
      · refine lv_iconst (v := 1) hx hb dX3_isEntry_38 (by decide) ?_
        refine pq_callV (wr := []) (own := RX3) (nL := 2) (q0 := 0) (ci := 3) [0, 1, 2, 3, 4, 5, 6, 7, 8, 9] [] [.int 1] (mX3_isFine l D cI mo z1 z2 z3 z4 z5 z6 z7 z8 z9 col hs cs fi la B td lf laid piled prs thr 1) ⟨hx, hb, hml, hown, hts⟩ (cwV 1 hts gX3_isEntry_X3_isFine rfl rfl rfl (by decide +kernel) ⟨by dsimp only [pq_R]; omega, by dsimp only [pq_R]; omega⟩) pq_bl0 (fun _ _ _ => trivial) hK hP hD hS hA rfl (by decide) rfl (by decide) (by decide) rfl rfl rfl rfl hl.1 rfl (Nat.le_of_ble_eq_true rfl) dX3_isEntry_39 ⟨by dsimp only [pq_R]; omega, by dsimp only [pq_R]; omega⟩ (fun v w1 H locs hq hP hD hS hz => ?_)
        obtain ⟨rfl, rfl⟩ := hq
        rw [if_neg (show ¬ (1 : Int32) = 0 by decide)]
        have hP : va_P D vwCl [(mo, .inr (3, [.int col, .ref z1, .ref z2, .ref z3, .ref z4, .ref z5, .ref z6, .ref z7, .ref z8, .ref z9, .int lf, .int B.2.2.2.2.1, .int B.2.2.2.2.2.1, .int B.2.2.2.2.2.2, .int laid, .int piled, .int prs, .int 1])), (z1, .inl (cI, 64, .inl hs)), (z2, .inl (cI, 64, .inl cs)), (z3, .inl (cI, 128, .inl fi)), (z4, .inl (cI, 128, .inl la)), (z5, .inl (cI, 128, .inl B.1)), (z6, .inl (cI, 128, .inl B.2.1)), (z7, .inl (cI, 128, .inl B.2.2.1)), (z8, .inl (cI, 128, .inl B.2.2.2.1)), (z9, .inl (cI, 64, .inl td))] H := hP
        have hD : va_D A [(mo, .inr (3, [.int col, .ref z1, .ref z2, .ref z3, .ref z4, .ref z5, .ref z6, .ref z7, .ref z8, .ref z9, .int lf, .int B.2.2.2.2.1, .int B.2.2.2.2.2.1, .int B.2.2.2.2.2.2, .int laid, .int piled, .int prs, .int 1])), (z1, .inl (cI, 64, .inl hs)), (z2, .inl (cI, 64, .inl cs)), (z3, .inl (cI, 128, .inl fi)), (z4, .inl (cI, 128, .inl la)), (z5, .inl (cI, 128, .inl B.1)), (z6, .inl (cI, 128, .inl B.2.1)), (z7, .inl (cI, 128, .inl B.2.2.1)), (z8, .inl (cI, 128, .inl B.2.2.2.1)), (z9, .inl (cI, 64, .inl td))] := hD
        refine W.eq (g2 := F0 m 42 ls [.int 0]) rfl ?_
        exact pq_zret hQ hx hb hr hlocks hK hS hP hD dX3_isEntry_42 (by omega) (by omega) (by decide) (absurd hrx b_4)
      · refine lv_iconst (v := 0) hx hb dX3_isEntry_34 (by decide) ?_
        refine lv_goto (tgt := 39) hx hb dX3_isEntry_35 (by decide) ?_
        refine pq_callV (wr := []) (own := RX3) (nL := 2) (q0 := 0) (ci := 3) [0, 1, 2, 3, 4, 5, 6, 7, 8, 9] [] [.int 0] (mX3_isFine l D cI mo z1 z2 z3 z4 z5 z6 z7 z8 z9 col hs cs fi la B td lf laid piled prs thr 0) ⟨hx, hb, hml, hown, hts⟩ (cwV 1 hts gX3_isEntry_X3_isFine rfl rfl rfl (by decide +kernel) ⟨by dsimp only [pq_R]; omega, by dsimp only [pq_R]; omega⟩) pq_bl0 (fun _ _ _ => trivial) hK hP hD hS hA rfl (by decide) rfl (by decide) (by decide) rfl rfl rfl rfl hl.1 rfl (Nat.le_of_ble_eq_true rfl) dX3_isEntry_39 ⟨by dsimp only [pq_R]; omega, by dsimp only [pq_R]; omega⟩ (fun v w1 H locs hq hP hD hS hz => ?_)
        obtain ⟨rfl, rfl⟩ := hq
        rw [if_pos rfl]
        have hP : va_P D vwCl [(mo, .inr (3, [.int col, .ref z1, .ref z2, .ref z3, .ref z4, .ref z5, .ref z6, .ref z7, .ref z8, .ref z9, .int lf, .int B.2.2.2.2.1, .int B.2.2.2.2.2.1, .int B.2.2.2.2.2.2, .int laid, .int piled, .int prs, .int 0])), (z1, .inl (cI, 64, .inl hs)), (z2, .inl (cI, 64, .inl cs)), (z3, .inl (cI, 128, .inl fi)), (z4, .inl (cI, 128, .inl la)), (z5, .inl (cI, 128, .inl B.1)), (z6, .inl (cI, 128, .inl B.2.1)), (z7, .inl (cI, 128, .inl B.2.2.1)), (z8, .inl (cI, 128, .inl B.2.2.2.1)), (z9, .inl (cI, 64, .inl td))] H := hP
        have hD : va_D A [(mo, .inr (3, [.int col, .ref z1, .ref z2, .ref z3, .ref z4, .ref z5, .ref z6, .ref z7, .ref z8, .ref z9, .int lf, .int B.2.2.2.2.1, .int B.2.2.2.2.2.1, .int B.2.2.2.2.2.2, .int laid, .int piled, .int prs, .int 0])), (z1, .inl (cI, 64, .inl hs)), (z2, .inl (cI, 64, .inl cs)), (z3, .inl (cI, 128, .inl fi)), (z4, .inl (cI, 128, .inl la)), (z5, .inl (cI, 128, .inl B.1)), (z6, .inl (cI, 128, .inl B.2.1)), (z7, .inl (cI, 128, .inl B.2.2.1)), (z8, .inl (cI, 128, .inl B.2.2.2.1)), (z9, .inl (cI, 64, .inl td))] := hD
        refine W.eq (g2 := F0 m 42 ls [.int 1]) rfl ?_
        exact pq_zret hQ hx hb hr hlocks hK hS hP hD dX3_isEntry_42 (by omega) (by omega) (by decide) (absurd hrx b_4)
  · rw [if_neg b_2]
    refine W.eq (g2 := F0 m 8 ls [.int 0, .ref mo]) rfl ?_
    refine lv_if_eq (tgt := 38) hx hb dX3_isEntry_8 (by decide) (fun _ => ?_) (fun c9 => absurd c9 (by decide))
    refine lv_iconst (v := 1) hx hb dX3_isEntry_38 (by decide) ?_
    refine pq_callV (wr := []) (own := RX3) (nL := 2) (q0 := 0) (ci := 3) [0, 1, 2, 3, 4, 5, 6, 7, 8, 9] [] [.int 1] (mX3_isFine l D cI mo z1 z2 z3 z4 z5 z6 z7 z8 z9 col hs cs fi la B td lf laid piled prs thr 1) ⟨hx, hb, hml, hown, hts⟩ (cwV 1 hts gX3_isEntry_X3_isFine rfl rfl rfl (by decide +kernel) ⟨by dsimp only [pq_R]; omega, by dsimp only [pq_R]; omega⟩) pq_bl0 (fun _ _ _ => trivial) hK hP hD hS hA rfl (by decide) rfl (by decide) (by decide) rfl rfl rfl rfl hl.1 rfl (Nat.le_of_ble_eq_true rfl) dX3_isEntry_39 ⟨by dsimp only [pq_R]; omega, by dsimp only [pq_R]; omega⟩ (fun v w1 H locs hq hP hD hS hz => ?_)
    obtain ⟨rfl, rfl⟩ := hq
    rw [if_neg (show ¬ (1 : Int32) = 0 by decide)]
    have hP : va_P D vwCl [(mo, .inr (3, [.int col, .ref z1, .ref z2, .ref z3, .ref z4, .ref z5, .ref z6, .ref z7, .ref z8, .ref z9, .int lf, .int B.2.2.2.2.1, .int B.2.2.2.2.2.1, .int B.2.2.2.2.2.2, .int laid, .int piled, .int prs, .int 1])), (z1, .inl (cI, 64, .inl hs)), (z2, .inl (cI, 64, .inl cs)), (z3, .inl (cI, 128, .inl fi)), (z4, .inl (cI, 128, .inl la)), (z5, .inl (cI, 128, .inl B.1)), (z6, .inl (cI, 128, .inl B.2.1)), (z7, .inl (cI, 128, .inl B.2.2.1)), (z8, .inl (cI, 128, .inl B.2.2.2.1)), (z9, .inl (cI, 64, .inl td))] H := hP
    have hD : va_D A [(mo, .inr (3, [.int col, .ref z1, .ref z2, .ref z3, .ref z4, .ref z5, .ref z6, .ref z7, .ref z8, .ref z9, .int lf, .int B.2.2.2.2.1, .int B.2.2.2.2.2.1, .int B.2.2.2.2.2.2, .int laid, .int piled, .int prs, .int 1])), (z1, .inl (cI, 64, .inl hs)), (z2, .inl (cI, 64, .inl cs)), (z3, .inl (cI, 128, .inl fi)), (z4, .inl (cI, 128, .inl la)), (z5, .inl (cI, 128, .inl B.1)), (z6, .inl (cI, 128, .inl B.2.1)), (z7, .inl (cI, 128, .inl B.2.2.1)), (z8, .inl (cI, 128, .inl B.2.2.2.1)), (z9, .inl (cI, 64, .inl td))] := hD
    refine W.eq (g2 := F0 m 42 ls [.int 0]) rfl ?_
    exact pq_zret hQ hx hb hr hlocks hK hS hP hD dX3_isEntry_42 (by omega) (by omega) (by decide) (Or.inr ⟨fun h => b_2 h.1, rfl, rfl⟩)

set_option maxHeartbeats 4000000 in
set_option maxRecDepth 100000 in
theorem mX3_spanOf (l : Launch) (D : va_G) (cI : ClassId) (mo z1 z2 z3 z4 z5 z6 z7 z8 z9 : Nat) (col : Int32) (hs cs fi la : Nat → Int32) (B : BK) (td : Nat → Int32) (lf laid piled prs thr : Int32) (x : Int32) : pq_M l yX3_spanOf wsX3_spanOf 2 43 0 0 D [(cI, .int)] pq_0 (mdW mo z1 z2 z3 z4 z5 z6 z7 z8 z9 cI col hs cs fi la B td lf laid piled prs thr) [.ref mo, .int x] (fun v w1 => (¬ mEnt fi x ∧ v = some (.int 0) ∧ w1 = mdW mo z1 z2 z3 z4 z5 z6 z7 z8 z9 cI col hs cs fi la B td lf laid piled prs 1) ∨ (∃ k, x = nI k ∧ 1 ≤ k ∧ k < 128 ∧ ¬ fi k < 0 ∧ v = some (.int (100 * fi k + la k)) ∧ w1 = mdW mo z1 z2 z3 z4 z5 z6 z7 z8 z9 cI col hs cs fi la B td lf laid piled prs 0)) := by
  refine pq_enter (cc := cX3_spanOf) (maxL := 2) (ret := (some .int)) (by decide) rfl (Nat.le_of_ble_eq_true rfl) ?_
  intro p ev s m args below meth cd A ls Q H locs hx hb hr hml hts hown hlocks hnm hK hP hD hS hA hE hl hQ
  have hl : lv_has ls 2 [(0, .ref mo), (1, .int x)] := hl
  have hP : va_P D vwCl [(mo, .inr (3, [.int col, .ref z1, .ref z2, .ref z3, .ref z4, .ref z5, .ref z6, .ref z7, .ref z8, .ref z9, .int lf, .int B.2.2.2.2.1, .int B.2.2.2.2.2.1, .int B.2.2.2.2.2.2, .int laid, .int piled, .int prs, .int thr])), (z1, .inl (cI, 64, .inl hs)), (z2, .inl (cI, 64, .inl cs)), (z3, .inl (cI, 128, .inl fi)), (z4, .inl (cI, 128, .inl la)), (z5, .inl (cI, 128, .inl B.1)), (z6, .inl (cI, 128, .inl B.2.1)), (z7, .inl (cI, 128, .inl B.2.2.1)), (z8, .inl (cI, 128, .inl B.2.2.2.1)), (z9, .inl (cI, 64, .inl td))] H := hP
  have hD : va_D A [(mo, .inr (3, [.int col, .ref z1, .ref z2, .ref z3, .ref z4, .ref z5, .ref z6, .ref z7, .ref z8, .ref z9, .int lf, .int B.2.2.2.2.1, .int B.2.2.2.2.2.1, .int B.2.2.2.2.2.2, .int laid, .int piled, .int prs, .int thr])), (z1, .inl (cI, 64, .inl hs)), (z2, .inl (cI, 64, .inl cs)), (z3, .inl (cI, 128, .inl fi)), (z4, .inl (cI, 128, .inl la)), (z5, .inl (cI, 128, .inl B.1)), (z6, .inl (cI, 128, .inl B.2.1)), (z7, .inl (cI, 128, .inl B.2.2.1)), (z8, .inl (cI, 128, .inl B.2.2.2.1)), (z9, .inl (cI, 64, .inl td))] := hD
  have hin_X3 : ∀ w ∈ wsX30, w ∈ wsX3_spanOf := by decide +kernel
  have hf_PressedPlainsModel_16 := hts (.fieldLink RX3 16 "PressedPlainsModel" "first" "[I") (by decide +kernel)
  have hf_PressedPlainsModel_19 := hts (.fieldLink RX3 19 "PressedPlainsModel" "last" "[I") (by decide +kernel)
  refine lv_aload_n hx hb dX3_spanOf_0 rfl (lv_at hl 0 rfl) ?_
  refine lv_iload_n hx hb dX3_spanOf_1 rfl (lv_at hl 1 rfl) ?_
  refine pq_callV (wr := []) (own := RX3) (nL := 2) (q0 := 0) (ci := 3) [0, 1, 2, 3, 4, 5, 6, 7, 8, 9] [] [.int x] (mX3_isEntry l D cI mo z1 z2 z3 z4 z5 z6 z7 z8 z9 col hs cs fi la B td lf laid piled prs thr x) ⟨hx, hb, hml, hown, hts⟩ (cwV 1 hts gX3_spanOf_X3_isEntry rfl rfl rfl (by decide +kernel) ⟨by dsimp only [pq_R]; omega, by dsimp only [pq_R]; omega⟩) pq_bl0 (fun _ _ _ => trivial) hK hP hD hS hA rfl (by decide) rfl (by decide) (by decide) rfl rfl rfl rfl hl.1 rfl (Nat.le_of_ble_eq_true rfl) dX3_spanOf_2 ⟨by dsimp only [pq_R]; omega, by dsimp only [pq_R]; omega⟩ (fun v w1 H locs hq hP hD hS hz => ?_)
  rcases hq with ⟨hen, rfl, rfl⟩ | ⟨hen, rfl, rfl⟩
  · have hP : va_P D vwCl [(mo, .inr (3, [.int col, .ref z1, .ref z2, .ref z3, .ref z4, .ref z5, .ref z6, .ref z7, .ref z8, .ref z9, .int lf, .int B.2.2.2.2.1, .int B.2.2.2.2.2.1, .int B.2.2.2.2.2.2, .int laid, .int piled, .int prs, .int 0])), (z1, .inl (cI, 64, .inl hs)), (z2, .inl (cI, 64, .inl cs)), (z3, .inl (cI, 128, .inl fi)), (z4, .inl (cI, 128, .inl la)), (z5, .inl (cI, 128, .inl B.1)), (z6, .inl (cI, 128, .inl B.2.1)), (z7, .inl (cI, 128, .inl B.2.2.1)), (z8, .inl (cI, 128, .inl B.2.2.2.1)), (z9, .inl (cI, 64, .inl td))] H := hP
    have hD : va_D A [(mo, .inr (3, [.int col, .ref z1, .ref z2, .ref z3, .ref z4, .ref z5, .ref z6, .ref z7, .ref z8, .ref z9, .int lf, .int B.2.2.2.2.1, .int B.2.2.2.2.2.1, .int B.2.2.2.2.2.2, .int laid, .int piled, .int prs, .int 0])), (z1, .inl (cI, 64, .inl hs)), (z2, .inl (cI, 64, .inl cs)), (z3, .inl (cI, 128, .inl fi)), (z4, .inl (cI, 128, .inl la)), (z5, .inl (cI, 128, .inl B.1)), (z6, .inl (cI, 128, .inl B.2.1)), (z7, .inl (cI, 128, .inl B.2.2.1)), (z8, .inl (cI, 128, .inl B.2.2.2.1)), (z9, .inl (cI, 64, .inl td))] := hD
    obtain ⟨ke, hke1, hke2, rfl⟩ := entM hen.1
    have hen2 : ¬ fi ke < 0 := by have := hen.2; rwa [nI_clamp (by omega)] at this
    refine W.eq (g2 := F0 m 5 ls [.int 1]) rfl ?_
    refine lv_if_eq (tgt := 27) hx hb dX3_spanOf_5 (by decide) (fun c9 => absurd c9 (by decide)) (fun _ => ?_)
    refine lv_bipush (v := 100) hx hb dX3_spanOf_8 (by decide) ?_
    refine lv_aload_n hx hb dX3_spanOf_10 rfl (lv_at hl 0 rfl) ?_
    refine va_get (D := D) (ci := 3) (v := .ref z3) (C := RX3) (T := TX3) (N := 18) hx hb hts hin_X3 hown hK hP 0 rfl rfl 3 (by decide) hf_PressedPlainsModel_16 (fun _ h9 => h9) rfl dX3_spanOf_11 ?_
    refine lv_iload_n hx hb dX3_spanOf_14 rfl (lv_at hl 1 rfl) ?_
    refine pq_iald hx hb hK hP 3 0 rfl rfl ke (by omega) (by decide) dX3_spanOf_15 ?_
    refine lv_imul hx hb dX3_spanOf_16 ?_
    refine lv_aload_n hx hb dX3_spanOf_17 rfl (lv_at hl 0 rfl) ?_
    refine va_get (D := D) (ci := 3) (v := .ref z4) (C := RX3) (T := TX3) (N := 18) hx hb hts hin_X3 hown hK hP 0 rfl rfl 4 (by decide) hf_PressedPlainsModel_19 (fun _ h9 => h9) rfl dX3_spanOf_18 ?_
    refine lv_iload_n hx hb dX3_spanOf_21 rfl (lv_at hl 1 rfl) ?_
    refine pq_iald hx hb hK hP 4 0 rfl rfl ke (by omega) (by decide) dX3_spanOf_22 ?_
    refine lv_iadd hx hb dX3_spanOf_23 ?_
    refine lv_goto (tgt := 28) hx hb dX3_spanOf_24 (by decide) ?_
    exact pq_iret hQ hx hb hr hlocks hK hS hP hD dX3_spanOf_28 (by omega) (by omega) (Or.inr ⟨ke, rfl, hke1, hke2, hen2, rfl, rfl⟩)
  · have hP : va_P D vwCl [(mo, .inr (3, [.int col, .ref z1, .ref z2, .ref z3, .ref z4, .ref z5, .ref z6, .ref z7, .ref z8, .ref z9, .int lf, .int B.2.2.2.2.1, .int B.2.2.2.2.2.1, .int B.2.2.2.2.2.2, .int laid, .int piled, .int prs, .int 1])), (z1, .inl (cI, 64, .inl hs)), (z2, .inl (cI, 64, .inl cs)), (z3, .inl (cI, 128, .inl fi)), (z4, .inl (cI, 128, .inl la)), (z5, .inl (cI, 128, .inl B.1)), (z6, .inl (cI, 128, .inl B.2.1)), (z7, .inl (cI, 128, .inl B.2.2.1)), (z8, .inl (cI, 128, .inl B.2.2.2.1)), (z9, .inl (cI, 64, .inl td))] H := hP
    have hD : va_D A [(mo, .inr (3, [.int col, .ref z1, .ref z2, .ref z3, .ref z4, .ref z5, .ref z6, .ref z7, .ref z8, .ref z9, .int lf, .int B.2.2.2.2.1, .int B.2.2.2.2.2.1, .int B.2.2.2.2.2.2, .int laid, .int piled, .int prs, .int 1])), (z1, .inl (cI, 64, .inl hs)), (z2, .inl (cI, 64, .inl cs)), (z3, .inl (cI, 128, .inl fi)), (z4, .inl (cI, 128, .inl la)), (z5, .inl (cI, 128, .inl B.1)), (z6, .inl (cI, 128, .inl B.2.1)), (z7, .inl (cI, 128, .inl B.2.2.1)), (z8, .inl (cI, 128, .inl B.2.2.2.1)), (z9, .inl (cI, 64, .inl td))] := hD
    refine W.eq (g2 := F0 m 5 ls [.int 0]) rfl ?_
    refine lv_if_eq (tgt := 27) hx hb dX3_spanOf_5 (by decide) (fun _ => ?_) (fun c9 => absurd c9 (by decide))
    refine lv_iconst (v := 0) hx hb dX3_spanOf_27 (by decide) ?_
    exact pq_iret hQ hx hb hr hlocks hK hS hP hD dX3_spanOf_28 (by omega) (by omega) (Or.inl ⟨hen, rfl, rfl⟩)

set_option maxHeartbeats 4000000 in
set_option maxRecDepth 100000 in
theorem mX3_greatest (l : Launch) (D : va_G) (cI : ClassId) (mo z1 z2 z3 z4 z5 z6 z7 z8 z9 : Nat) (col : Int32) (hs cs fi la : Nat → Int32) (B : BK) (td : Nat → Int32) (lf laid piled prs thr : Int32) (x : Int32) : pq_M l yX3_greatest wsX3_greatest 2 43 0 0 D [(cI, .int)] pq_0 (mdW mo z1 z2 z3 z4 z5 z6 z7 z8 z9 cI col hs cs fi la B td lf laid piled prs thr) [.ref mo, .int x] (fun v w1 => (¬ mEnt fi x ∧ v = some (.int 0) ∧ w1 = mdW mo z1 z2 z3 z4 z5 z6 z7 z8 z9 cI col hs cs fi la B td lf laid piled prs 1) ∨ (∃ k, x = nI k ∧ 1 ≤ k ∧ k < 128 ∧ ¬ fi k < 0 ∧ v = some (.int (B.1 k)) ∧ w1 = mdW mo z1 z2 z3 z4 z5 z6 z7 z8 z9 cI col hs cs fi la B td lf laid piled prs 0)) := by
  refine pq_enter (cc := cX3_greatest) (maxL := 2) (ret := (some .int)) (by decide) rfl (Nat.le_of_ble_eq_true rfl) ?_
  intro p ev s m args below meth cd A ls Q H locs hx hb hr hml hts hown hlocks hnm hK hP hD hS hA hE hl hQ
  have hl : lv_has ls 2 [(0, .ref mo), (1, .int x)] := hl
  have hP : va_P D vwCl [(mo, .inr (3, [.int col, .ref z1, .ref z2, .ref z3, .ref z4, .ref z5, .ref z6, .ref z7, .ref z8, .ref z9, .int lf, .int B.2.2.2.2.1, .int B.2.2.2.2.2.1, .int B.2.2.2.2.2.2, .int laid, .int piled, .int prs, .int thr])), (z1, .inl (cI, 64, .inl hs)), (z2, .inl (cI, 64, .inl cs)), (z3, .inl (cI, 128, .inl fi)), (z4, .inl (cI, 128, .inl la)), (z5, .inl (cI, 128, .inl B.1)), (z6, .inl (cI, 128, .inl B.2.1)), (z7, .inl (cI, 128, .inl B.2.2.1)), (z8, .inl (cI, 128, .inl B.2.2.2.1)), (z9, .inl (cI, 64, .inl td))] H := hP
  have hD : va_D A [(mo, .inr (3, [.int col, .ref z1, .ref z2, .ref z3, .ref z4, .ref z5, .ref z6, .ref z7, .ref z8, .ref z9, .int lf, .int B.2.2.2.2.1, .int B.2.2.2.2.2.1, .int B.2.2.2.2.2.2, .int laid, .int piled, .int prs, .int thr])), (z1, .inl (cI, 64, .inl hs)), (z2, .inl (cI, 64, .inl cs)), (z3, .inl (cI, 128, .inl fi)), (z4, .inl (cI, 128, .inl la)), (z5, .inl (cI, 128, .inl B.1)), (z6, .inl (cI, 128, .inl B.2.1)), (z7, .inl (cI, 128, .inl B.2.2.1)), (z8, .inl (cI, 128, .inl B.2.2.2.1)), (z9, .inl (cI, 64, .inl td))] := hD
  have hin_X3 : ∀ w ∈ wsX30, w ∈ wsX3_greatest := by decide +kernel
  have hf_PressedPlainsModel_22 := hts (.fieldLink RX3 22 "PressedPlainsModel" "greatest" "[I") (by decide +kernel)
  refine lv_aload_n hx hb dX3_greatest_0 rfl (lv_at hl 0 rfl) ?_
  refine lv_iload_n hx hb dX3_greatest_1 rfl (lv_at hl 1 rfl) ?_
  refine pq_callV (wr := []) (own := RX3) (nL := 2) (q0 := 0) (ci := 3) [0, 1, 2, 3, 4, 5, 6, 7, 8, 9] [] [.int x] (mX3_isEntry l D cI mo z1 z2 z3 z4 z5 z6 z7 z8 z9 col hs cs fi la B td lf laid piled prs thr x) ⟨hx, hb, hml, hown, hts⟩ (cwV 1 hts gX3_greatest_X3_isEntry rfl rfl rfl (by decide +kernel) ⟨by dsimp only [pq_R]; omega, by dsimp only [pq_R]; omega⟩) pq_bl0 (fun _ _ _ => trivial) hK hP hD hS hA rfl (by decide) rfl (by decide) (by decide) rfl rfl rfl rfl hl.1 rfl (Nat.le_of_ble_eq_true rfl) dX3_greatest_2 ⟨by dsimp only [pq_R]; omega, by dsimp only [pq_R]; omega⟩ (fun v w1 H locs hq hP hD hS hz => ?_)
  rcases hq with ⟨hen, rfl, rfl⟩ | ⟨hen, rfl, rfl⟩
  · have hP : va_P D vwCl [(mo, .inr (3, [.int col, .ref z1, .ref z2, .ref z3, .ref z4, .ref z5, .ref z6, .ref z7, .ref z8, .ref z9, .int lf, .int B.2.2.2.2.1, .int B.2.2.2.2.2.1, .int B.2.2.2.2.2.2, .int laid, .int piled, .int prs, .int 0])), (z1, .inl (cI, 64, .inl hs)), (z2, .inl (cI, 64, .inl cs)), (z3, .inl (cI, 128, .inl fi)), (z4, .inl (cI, 128, .inl la)), (z5, .inl (cI, 128, .inl B.1)), (z6, .inl (cI, 128, .inl B.2.1)), (z7, .inl (cI, 128, .inl B.2.2.1)), (z8, .inl (cI, 128, .inl B.2.2.2.1)), (z9, .inl (cI, 64, .inl td))] H := hP
    have hD : va_D A [(mo, .inr (3, [.int col, .ref z1, .ref z2, .ref z3, .ref z4, .ref z5, .ref z6, .ref z7, .ref z8, .ref z9, .int lf, .int B.2.2.2.2.1, .int B.2.2.2.2.2.1, .int B.2.2.2.2.2.2, .int laid, .int piled, .int prs, .int 0])), (z1, .inl (cI, 64, .inl hs)), (z2, .inl (cI, 64, .inl cs)), (z3, .inl (cI, 128, .inl fi)), (z4, .inl (cI, 128, .inl la)), (z5, .inl (cI, 128, .inl B.1)), (z6, .inl (cI, 128, .inl B.2.1)), (z7, .inl (cI, 128, .inl B.2.2.1)), (z8, .inl (cI, 128, .inl B.2.2.2.1)), (z9, .inl (cI, 64, .inl td))] := hD
    obtain ⟨ke, hke1, hke2, rfl⟩ := entM hen.1
    have hen2 : ¬ fi ke < 0 := by have := hen.2; rwa [nI_clamp (by omega)] at this
    refine W.eq (g2 := F0 m 5 ls [.int 1]) rfl ?_
    refine lv_if_eq (tgt := 17) hx hb dX3_greatest_5 (by decide) (fun c9 => absurd c9 (by decide)) (fun _ => ?_)
    refine lv_aload_n hx hb dX3_greatest_8 rfl (lv_at hl 0 rfl) ?_
    refine va_get (D := D) (ci := 3) (v := .ref z5) (C := RX3) (T := TX3) (N := 18) hx hb hts hin_X3 hown hK hP 0 rfl rfl 5 (by decide) hf_PressedPlainsModel_22 (fun _ h9 => h9) rfl dX3_greatest_9 ?_
    refine lv_iload_n hx hb dX3_greatest_12 rfl (lv_at hl 1 rfl) ?_
    refine pq_iald hx hb hK hP 5 0 rfl rfl ke (by omega) (by decide) dX3_greatest_13 ?_
    refine lv_goto (tgt := 18) hx hb dX3_greatest_14 (by decide) ?_
    exact pq_iret hQ hx hb hr hlocks hK hS hP hD dX3_greatest_18 (by omega) (by omega) (Or.inr ⟨ke, rfl, hke1, hke2, hen2, rfl, rfl⟩)
  · have hP : va_P D vwCl [(mo, .inr (3, [.int col, .ref z1, .ref z2, .ref z3, .ref z4, .ref z5, .ref z6, .ref z7, .ref z8, .ref z9, .int lf, .int B.2.2.2.2.1, .int B.2.2.2.2.2.1, .int B.2.2.2.2.2.2, .int laid, .int piled, .int prs, .int 1])), (z1, .inl (cI, 64, .inl hs)), (z2, .inl (cI, 64, .inl cs)), (z3, .inl (cI, 128, .inl fi)), (z4, .inl (cI, 128, .inl la)), (z5, .inl (cI, 128, .inl B.1)), (z6, .inl (cI, 128, .inl B.2.1)), (z7, .inl (cI, 128, .inl B.2.2.1)), (z8, .inl (cI, 128, .inl B.2.2.2.1)), (z9, .inl (cI, 64, .inl td))] H := hP
    have hD : va_D A [(mo, .inr (3, [.int col, .ref z1, .ref z2, .ref z3, .ref z4, .ref z5, .ref z6, .ref z7, .ref z8, .ref z9, .int lf, .int B.2.2.2.2.1, .int B.2.2.2.2.2.1, .int B.2.2.2.2.2.2, .int laid, .int piled, .int prs, .int 1])), (z1, .inl (cI, 64, .inl hs)), (z2, .inl (cI, 64, .inl cs)), (z3, .inl (cI, 128, .inl fi)), (z4, .inl (cI, 128, .inl la)), (z5, .inl (cI, 128, .inl B.1)), (z6, .inl (cI, 128, .inl B.2.1)), (z7, .inl (cI, 128, .inl B.2.2.1)), (z8, .inl (cI, 128, .inl B.2.2.2.1)), (z9, .inl (cI, 64, .inl td))] := hD
    refine W.eq (g2 := F0 m 5 ls [.int 0]) rfl ?_
    refine lv_if_eq (tgt := 17) hx hb dX3_greatest_5 (by decide) (fun _ => ?_) (fun c9 => absurd c9 (by decide))
    refine lv_iconst (v := 0) hx hb dX3_greatest_17 (by decide) ?_
    exact pq_iret hQ hx hb hr hlocks hK hS hP hD dX3_greatest_18 (by omega) (by omega) (Or.inl ⟨hen, rfl, rfl⟩)

set_option maxHeartbeats 4000000 in
set_option maxRecDepth 100000 in
theorem mX3_second (l : Launch) (D : va_G) (cI : ClassId) (mo z1 z2 z3 z4 z5 z6 z7 z8 z9 : Nat) (col : Int32) (hs cs fi la : Nat → Int32) (B : BK) (td : Nat → Int32) (lf laid piled prs thr : Int32) (x : Int32) : pq_M l yX3_second wsX3_second 2 43 0 0 D [(cI, .int)] pq_0 (mdW mo z1 z2 z3 z4 z5 z6 z7 z8 z9 cI col hs cs fi la B td lf laid piled prs thr) [.ref mo, .int x] (fun v w1 => (¬ mEnt fi x ∧ v = some (.int 0) ∧ w1 = mdW mo z1 z2 z3 z4 z5 z6 z7 z8 z9 cI col hs cs fi la B td lf laid piled prs 1) ∨ (∃ k, x = nI k ∧ 1 ≤ k ∧ k < 128 ∧ ¬ fi k < 0 ∧ v = some (.int (B.2.1 k)) ∧ w1 = mdW mo z1 z2 z3 z4 z5 z6 z7 z8 z9 cI col hs cs fi la B td lf laid piled prs 0)) := by
  refine pq_enter (cc := cX3_second) (maxL := 2) (ret := (some .int)) (by decide) rfl (Nat.le_of_ble_eq_true rfl) ?_
  intro p ev s m args below meth cd A ls Q H locs hx hb hr hml hts hown hlocks hnm hK hP hD hS hA hE hl hQ
  have hl : lv_has ls 2 [(0, .ref mo), (1, .int x)] := hl
  have hP : va_P D vwCl [(mo, .inr (3, [.int col, .ref z1, .ref z2, .ref z3, .ref z4, .ref z5, .ref z6, .ref z7, .ref z8, .ref z9, .int lf, .int B.2.2.2.2.1, .int B.2.2.2.2.2.1, .int B.2.2.2.2.2.2, .int laid, .int piled, .int prs, .int thr])), (z1, .inl (cI, 64, .inl hs)), (z2, .inl (cI, 64, .inl cs)), (z3, .inl (cI, 128, .inl fi)), (z4, .inl (cI, 128, .inl la)), (z5, .inl (cI, 128, .inl B.1)), (z6, .inl (cI, 128, .inl B.2.1)), (z7, .inl (cI, 128, .inl B.2.2.1)), (z8, .inl (cI, 128, .inl B.2.2.2.1)), (z9, .inl (cI, 64, .inl td))] H := hP
  have hD : va_D A [(mo, .inr (3, [.int col, .ref z1, .ref z2, .ref z3, .ref z4, .ref z5, .ref z6, .ref z7, .ref z8, .ref z9, .int lf, .int B.2.2.2.2.1, .int B.2.2.2.2.2.1, .int B.2.2.2.2.2.2, .int laid, .int piled, .int prs, .int thr])), (z1, .inl (cI, 64, .inl hs)), (z2, .inl (cI, 64, .inl cs)), (z3, .inl (cI, 128, .inl fi)), (z4, .inl (cI, 128, .inl la)), (z5, .inl (cI, 128, .inl B.1)), (z6, .inl (cI, 128, .inl B.2.1)), (z7, .inl (cI, 128, .inl B.2.2.1)), (z8, .inl (cI, 128, .inl B.2.2.2.1)), (z9, .inl (cI, 64, .inl td))] := hD
  have hin_X3 : ∀ w ∈ wsX30, w ∈ wsX3_second := by decide +kernel
  have hf_PressedPlainsModel_25 := hts (.fieldLink RX3 25 "PressedPlainsModel" "second" "[I") (by decide +kernel)
  refine lv_aload_n hx hb dX3_second_0 rfl (lv_at hl 0 rfl) ?_
  refine lv_iload_n hx hb dX3_second_1 rfl (lv_at hl 1 rfl) ?_
  refine pq_callV (wr := []) (own := RX3) (nL := 2) (q0 := 0) (ci := 3) [0, 1, 2, 3, 4, 5, 6, 7, 8, 9] [] [.int x] (mX3_isEntry l D cI mo z1 z2 z3 z4 z5 z6 z7 z8 z9 col hs cs fi la B td lf laid piled prs thr x) ⟨hx, hb, hml, hown, hts⟩ (cwV 1 hts gX3_second_X3_isEntry rfl rfl rfl (by decide +kernel) ⟨by dsimp only [pq_R]; omega, by dsimp only [pq_R]; omega⟩) pq_bl0 (fun _ _ _ => trivial) hK hP hD hS hA rfl (by decide) rfl (by decide) (by decide) rfl rfl rfl rfl hl.1 rfl (Nat.le_of_ble_eq_true rfl) dX3_second_2 ⟨by dsimp only [pq_R]; omega, by dsimp only [pq_R]; omega⟩ (fun v w1 H locs hq hP hD hS hz => ?_)
  rcases hq with ⟨hen, rfl, rfl⟩ | ⟨hen, rfl, rfl⟩
  · have hP : va_P D vwCl [(mo, .inr (3, [.int col, .ref z1, .ref z2, .ref z3, .ref z4, .ref z5, .ref z6, .ref z7, .ref z8, .ref z9, .int lf, .int B.2.2.2.2.1, .int B.2.2.2.2.2.1, .int B.2.2.2.2.2.2, .int laid, .int piled, .int prs, .int 0])), (z1, .inl (cI, 64, .inl hs)), (z2, .inl (cI, 64, .inl cs)), (z3, .inl (cI, 128, .inl fi)), (z4, .inl (cI, 128, .inl la)), (z5, .inl (cI, 128, .inl B.1)), (z6, .inl (cI, 128, .inl B.2.1)), (z7, .inl (cI, 128, .inl B.2.2.1)), (z8, .inl (cI, 128, .inl B.2.2.2.1)), (z9, .inl (cI, 64, .inl td))] H := hP
    have hD : va_D A [(mo, .inr (3, [.int col, .ref z1, .ref z2, .ref z3, .ref z4, .ref z5, .ref z6, .ref z7, .ref z8, .ref z9, .int lf, .int B.2.2.2.2.1, .int B.2.2.2.2.2.1, .int B.2.2.2.2.2.2, .int laid, .int piled, .int prs, .int 0])), (z1, .inl (cI, 64, .inl hs)), (z2, .inl (cI, 64, .inl cs)), (z3, .inl (cI, 128, .inl fi)), (z4, .inl (cI, 128, .inl la)), (z5, .inl (cI, 128, .inl B.1)), (z6, .inl (cI, 128, .inl B.2.1)), (z7, .inl (cI, 128, .inl B.2.2.1)), (z8, .inl (cI, 128, .inl B.2.2.2.1)), (z9, .inl (cI, 64, .inl td))] := hD
    obtain ⟨ke, hke1, hke2, rfl⟩ := entM hen.1
    have hen2 : ¬ fi ke < 0 := by have := hen.2; rwa [nI_clamp (by omega)] at this
    refine W.eq (g2 := F0 m 5 ls [.int 1]) rfl ?_
    refine lv_if_eq (tgt := 17) hx hb dX3_second_5 (by decide) (fun c9 => absurd c9 (by decide)) (fun _ => ?_)
    refine lv_aload_n hx hb dX3_second_8 rfl (lv_at hl 0 rfl) ?_
    refine va_get (D := D) (ci := 3) (v := .ref z6) (C := RX3) (T := TX3) (N := 18) hx hb hts hin_X3 hown hK hP 0 rfl rfl 6 (by decide) hf_PressedPlainsModel_25 (fun _ h9 => h9) rfl dX3_second_9 ?_
    refine lv_iload_n hx hb dX3_second_12 rfl (lv_at hl 1 rfl) ?_
    refine pq_iald hx hb hK hP 6 0 rfl rfl ke (by omega) (by decide) dX3_second_13 ?_
    refine lv_goto (tgt := 18) hx hb dX3_second_14 (by decide) ?_
    exact pq_iret hQ hx hb hr hlocks hK hS hP hD dX3_second_18 (by omega) (by omega) (Or.inr ⟨ke, rfl, hke1, hke2, hen2, rfl, rfl⟩)
  · have hP : va_P D vwCl [(mo, .inr (3, [.int col, .ref z1, .ref z2, .ref z3, .ref z4, .ref z5, .ref z6, .ref z7, .ref z8, .ref z9, .int lf, .int B.2.2.2.2.1, .int B.2.2.2.2.2.1, .int B.2.2.2.2.2.2, .int laid, .int piled, .int prs, .int 1])), (z1, .inl (cI, 64, .inl hs)), (z2, .inl (cI, 64, .inl cs)), (z3, .inl (cI, 128, .inl fi)), (z4, .inl (cI, 128, .inl la)), (z5, .inl (cI, 128, .inl B.1)), (z6, .inl (cI, 128, .inl B.2.1)), (z7, .inl (cI, 128, .inl B.2.2.1)), (z8, .inl (cI, 128, .inl B.2.2.2.1)), (z9, .inl (cI, 64, .inl td))] H := hP
    have hD : va_D A [(mo, .inr (3, [.int col, .ref z1, .ref z2, .ref z3, .ref z4, .ref z5, .ref z6, .ref z7, .ref z8, .ref z9, .int lf, .int B.2.2.2.2.1, .int B.2.2.2.2.2.1, .int B.2.2.2.2.2.2, .int laid, .int piled, .int prs, .int 1])), (z1, .inl (cI, 64, .inl hs)), (z2, .inl (cI, 64, .inl cs)), (z3, .inl (cI, 128, .inl fi)), (z4, .inl (cI, 128, .inl la)), (z5, .inl (cI, 128, .inl B.1)), (z6, .inl (cI, 128, .inl B.2.1)), (z7, .inl (cI, 128, .inl B.2.2.1)), (z8, .inl (cI, 128, .inl B.2.2.2.1)), (z9, .inl (cI, 64, .inl td))] := hD
    refine W.eq (g2 := F0 m 5 ls [.int 0]) rfl ?_
    refine lv_if_eq (tgt := 17) hx hb dX3_second_5 (by decide) (fun _ => ?_) (fun c9 => absurd c9 (by decide))
    refine lv_iconst (v := 0) hx hb dX3_second_17 (by decide) ?_
    exact pq_iret hQ hx hb hr hlocks hK hS hP hD dX3_second_18 (by omega) (by omega) (Or.inl ⟨hen, rfl, rfl⟩)

set_option maxHeartbeats 4000000 in
set_option maxRecDepth 100000 in
theorem mX3_many (l : Launch) (D : va_G) (cI : ClassId) (mo z1 z2 z3 z4 z5 z6 z7 z8 z9 : Nat) (col : Int32) (hs cs fi la : Nat → Int32) (B : BK) (td : Nat → Int32) (lf laid piled prs thr : Int32) (x : Int32) : pq_M l yX3_many wsX3_many 2 43 0 0 D [(cI, .int)] pq_0 (mdW mo z1 z2 z3 z4 z5 z6 z7 z8 z9 cI col hs cs fi la B td lf laid piled prs thr) [.ref mo, .int x] (fun v w1 => (¬ mEnt fi x ∧ v = some (.int 0) ∧ w1 = mdW mo z1 z2 z3 z4 z5 z6 z7 z8 z9 cI col hs cs fi la B td lf laid piled prs 1) ∨ (∃ k, x = nI k ∧ 1 ≤ k ∧ k < 128 ∧ ¬ fi k < 0 ∧ v = some (.int (B.2.2.1 k)) ∧ w1 = mdW mo z1 z2 z3 z4 z5 z6 z7 z8 z9 cI col hs cs fi la B td lf laid piled prs 0)) := by
  refine pq_enter (cc := cX3_many) (maxL := 2) (ret := (some .int)) (by decide) rfl (Nat.le_of_ble_eq_true rfl) ?_
  intro p ev s m args below meth cd A ls Q H locs hx hb hr hml hts hown hlocks hnm hK hP hD hS hA hE hl hQ
  have hl : lv_has ls 2 [(0, .ref mo), (1, .int x)] := hl
  have hP : va_P D vwCl [(mo, .inr (3, [.int col, .ref z1, .ref z2, .ref z3, .ref z4, .ref z5, .ref z6, .ref z7, .ref z8, .ref z9, .int lf, .int B.2.2.2.2.1, .int B.2.2.2.2.2.1, .int B.2.2.2.2.2.2, .int laid, .int piled, .int prs, .int thr])), (z1, .inl (cI, 64, .inl hs)), (z2, .inl (cI, 64, .inl cs)), (z3, .inl (cI, 128, .inl fi)), (z4, .inl (cI, 128, .inl la)), (z5, .inl (cI, 128, .inl B.1)), (z6, .inl (cI, 128, .inl B.2.1)), (z7, .inl (cI, 128, .inl B.2.2.1)), (z8, .inl (cI, 128, .inl B.2.2.2.1)), (z9, .inl (cI, 64, .inl td))] H := hP
  have hD : va_D A [(mo, .inr (3, [.int col, .ref z1, .ref z2, .ref z3, .ref z4, .ref z5, .ref z6, .ref z7, .ref z8, .ref z9, .int lf, .int B.2.2.2.2.1, .int B.2.2.2.2.2.1, .int B.2.2.2.2.2.2, .int laid, .int piled, .int prs, .int thr])), (z1, .inl (cI, 64, .inl hs)), (z2, .inl (cI, 64, .inl cs)), (z3, .inl (cI, 128, .inl fi)), (z4, .inl (cI, 128, .inl la)), (z5, .inl (cI, 128, .inl B.1)), (z6, .inl (cI, 128, .inl B.2.1)), (z7, .inl (cI, 128, .inl B.2.2.1)), (z8, .inl (cI, 128, .inl B.2.2.2.1)), (z9, .inl (cI, 64, .inl td))] := hD
  have hin_X3 : ∀ w ∈ wsX30, w ∈ wsX3_many := by decide +kernel
  have hf_PressedPlainsModel_28 := hts (.fieldLink RX3 28 "PressedPlainsModel" "many" "[I") (by decide +kernel)
  refine lv_aload_n hx hb dX3_many_0 rfl (lv_at hl 0 rfl) ?_
  refine lv_iload_n hx hb dX3_many_1 rfl (lv_at hl 1 rfl) ?_
  refine pq_callV (wr := []) (own := RX3) (nL := 2) (q0 := 0) (ci := 3) [0, 1, 2, 3, 4, 5, 6, 7, 8, 9] [] [.int x] (mX3_isEntry l D cI mo z1 z2 z3 z4 z5 z6 z7 z8 z9 col hs cs fi la B td lf laid piled prs thr x) ⟨hx, hb, hml, hown, hts⟩ (cwV 1 hts gX3_many_X3_isEntry rfl rfl rfl (by decide +kernel) ⟨by dsimp only [pq_R]; omega, by dsimp only [pq_R]; omega⟩) pq_bl0 (fun _ _ _ => trivial) hK hP hD hS hA rfl (by decide) rfl (by decide) (by decide) rfl rfl rfl rfl hl.1 rfl (Nat.le_of_ble_eq_true rfl) dX3_many_2 ⟨by dsimp only [pq_R]; omega, by dsimp only [pq_R]; omega⟩ (fun v w1 H locs hq hP hD hS hz => ?_)
  rcases hq with ⟨hen, rfl, rfl⟩ | ⟨hen, rfl, rfl⟩
  · have hP : va_P D vwCl [(mo, .inr (3, [.int col, .ref z1, .ref z2, .ref z3, .ref z4, .ref z5, .ref z6, .ref z7, .ref z8, .ref z9, .int lf, .int B.2.2.2.2.1, .int B.2.2.2.2.2.1, .int B.2.2.2.2.2.2, .int laid, .int piled, .int prs, .int 0])), (z1, .inl (cI, 64, .inl hs)), (z2, .inl (cI, 64, .inl cs)), (z3, .inl (cI, 128, .inl fi)), (z4, .inl (cI, 128, .inl la)), (z5, .inl (cI, 128, .inl B.1)), (z6, .inl (cI, 128, .inl B.2.1)), (z7, .inl (cI, 128, .inl B.2.2.1)), (z8, .inl (cI, 128, .inl B.2.2.2.1)), (z9, .inl (cI, 64, .inl td))] H := hP
    have hD : va_D A [(mo, .inr (3, [.int col, .ref z1, .ref z2, .ref z3, .ref z4, .ref z5, .ref z6, .ref z7, .ref z8, .ref z9, .int lf, .int B.2.2.2.2.1, .int B.2.2.2.2.2.1, .int B.2.2.2.2.2.2, .int laid, .int piled, .int prs, .int 0])), (z1, .inl (cI, 64, .inl hs)), (z2, .inl (cI, 64, .inl cs)), (z3, .inl (cI, 128, .inl fi)), (z4, .inl (cI, 128, .inl la)), (z5, .inl (cI, 128, .inl B.1)), (z6, .inl (cI, 128, .inl B.2.1)), (z7, .inl (cI, 128, .inl B.2.2.1)), (z8, .inl (cI, 128, .inl B.2.2.2.1)), (z9, .inl (cI, 64, .inl td))] := hD
    obtain ⟨ke, hke1, hke2, rfl⟩ := entM hen.1
    have hen2 : ¬ fi ke < 0 := by have := hen.2; rwa [nI_clamp (by omega)] at this
    refine W.eq (g2 := F0 m 5 ls [.int 1]) rfl ?_
    refine lv_if_eq (tgt := 17) hx hb dX3_many_5 (by decide) (fun c9 => absurd c9 (by decide)) (fun _ => ?_)
    refine lv_aload_n hx hb dX3_many_8 rfl (lv_at hl 0 rfl) ?_
    refine va_get (D := D) (ci := 3) (v := .ref z7) (C := RX3) (T := TX3) (N := 18) hx hb hts hin_X3 hown hK hP 0 rfl rfl 7 (by decide) hf_PressedPlainsModel_28 (fun _ h9 => h9) rfl dX3_many_9 ?_
    refine lv_iload_n hx hb dX3_many_12 rfl (lv_at hl 1 rfl) ?_
    refine pq_iald hx hb hK hP 7 0 rfl rfl ke (by omega) (by decide) dX3_many_13 ?_
    refine lv_goto (tgt := 18) hx hb dX3_many_14 (by decide) ?_
    exact pq_iret hQ hx hb hr hlocks hK hS hP hD dX3_many_18 (by omega) (by omega) (Or.inr ⟨ke, rfl, hke1, hke2, hen2, rfl, rfl⟩)
  · have hP : va_P D vwCl [(mo, .inr (3, [.int col, .ref z1, .ref z2, .ref z3, .ref z4, .ref z5, .ref z6, .ref z7, .ref z8, .ref z9, .int lf, .int B.2.2.2.2.1, .int B.2.2.2.2.2.1, .int B.2.2.2.2.2.2, .int laid, .int piled, .int prs, .int 1])), (z1, .inl (cI, 64, .inl hs)), (z2, .inl (cI, 64, .inl cs)), (z3, .inl (cI, 128, .inl fi)), (z4, .inl (cI, 128, .inl la)), (z5, .inl (cI, 128, .inl B.1)), (z6, .inl (cI, 128, .inl B.2.1)), (z7, .inl (cI, 128, .inl B.2.2.1)), (z8, .inl (cI, 128, .inl B.2.2.2.1)), (z9, .inl (cI, 64, .inl td))] H := hP
    have hD : va_D A [(mo, .inr (3, [.int col, .ref z1, .ref z2, .ref z3, .ref z4, .ref z5, .ref z6, .ref z7, .ref z8, .ref z9, .int lf, .int B.2.2.2.2.1, .int B.2.2.2.2.2.1, .int B.2.2.2.2.2.2, .int laid, .int piled, .int prs, .int 1])), (z1, .inl (cI, 64, .inl hs)), (z2, .inl (cI, 64, .inl cs)), (z3, .inl (cI, 128, .inl fi)), (z4, .inl (cI, 128, .inl la)), (z5, .inl (cI, 128, .inl B.1)), (z6, .inl (cI, 128, .inl B.2.1)), (z7, .inl (cI, 128, .inl B.2.2.1)), (z8, .inl (cI, 128, .inl B.2.2.2.1)), (z9, .inl (cI, 64, .inl td))] := hD
    refine W.eq (g2 := F0 m 5 ls [.int 0]) rfl ?_
    refine lv_if_eq (tgt := 17) hx hb dX3_many_5 (by decide) (fun _ => ?_) (fun c9 => absurd c9 (by decide))
    refine lv_iconst (v := 0) hx hb dX3_many_17 (by decide) ?_
    exact pq_iret hQ hx hb hr hlocks hK hS hP hD dX3_many_18 (by omega) (by omega) (Or.inl ⟨hen, rfl, rfl⟩)

set_option maxHeartbeats 4000000 in
set_option maxRecDepth 100000 in
theorem mX3_noted (l : Launch) (D : va_G) (cI : ClassId) (mo z1 z2 z3 z4 z5 z6 z7 z8 z9 : Nat) (col : Int32) (hs cs fi la : Nat → Int32) (B : BK) (td : Nat → Int32) (lf laid piled prs thr : Int32) (x : Int32) : pq_M l yX3_noted wsX3_noted 2 43 0 0 D [(cI, .int)] pq_0 (mdW mo z1 z2 z3 z4 z5 z6 z7 z8 z9 cI col hs cs fi la B td lf laid piled prs thr) [.ref mo, .int x] (fun v w1 => (¬ mEnt fi x ∧ v = some (.int 0) ∧ w1 = mdW mo z1 z2 z3 z4 z5 z6 z7 z8 z9 cI col hs cs fi la B td lf laid piled prs 1) ∨ (∃ k, x = nI k ∧ 1 ≤ k ∧ k < 128 ∧ ¬ fi k < 0 ∧ v = some (.int (B.2.2.2.1 k)) ∧ w1 = mdW mo z1 z2 z3 z4 z5 z6 z7 z8 z9 cI col hs cs fi la B td lf laid piled prs 0)) := by
  refine pq_enter (cc := cX3_noted) (maxL := 2) (ret := (some .int)) (by decide) rfl (Nat.le_of_ble_eq_true rfl) ?_
  intro p ev s m args below meth cd A ls Q H locs hx hb hr hml hts hown hlocks hnm hK hP hD hS hA hE hl hQ
  have hl : lv_has ls 2 [(0, .ref mo), (1, .int x)] := hl
  have hP : va_P D vwCl [(mo, .inr (3, [.int col, .ref z1, .ref z2, .ref z3, .ref z4, .ref z5, .ref z6, .ref z7, .ref z8, .ref z9, .int lf, .int B.2.2.2.2.1, .int B.2.2.2.2.2.1, .int B.2.2.2.2.2.2, .int laid, .int piled, .int prs, .int thr])), (z1, .inl (cI, 64, .inl hs)), (z2, .inl (cI, 64, .inl cs)), (z3, .inl (cI, 128, .inl fi)), (z4, .inl (cI, 128, .inl la)), (z5, .inl (cI, 128, .inl B.1)), (z6, .inl (cI, 128, .inl B.2.1)), (z7, .inl (cI, 128, .inl B.2.2.1)), (z8, .inl (cI, 128, .inl B.2.2.2.1)), (z9, .inl (cI, 64, .inl td))] H := hP
  have hD : va_D A [(mo, .inr (3, [.int col, .ref z1, .ref z2, .ref z3, .ref z4, .ref z5, .ref z6, .ref z7, .ref z8, .ref z9, .int lf, .int B.2.2.2.2.1, .int B.2.2.2.2.2.1, .int B.2.2.2.2.2.2, .int laid, .int piled, .int prs, .int thr])), (z1, .inl (cI, 64, .inl hs)), (z2, .inl (cI, 64, .inl cs)), (z3, .inl (cI, 128, .inl fi)), (z4, .inl (cI, 128, .inl la)), (z5, .inl (cI, 128, .inl B.1)), (z6, .inl (cI, 128, .inl B.2.1)), (z7, .inl (cI, 128, .inl B.2.2.1)), (z8, .inl (cI, 128, .inl B.2.2.2.1)), (z9, .inl (cI, 64, .inl td))] := hD
  have hin_X3 : ∀ w ∈ wsX30, w ∈ wsX3_noted := by decide +kernel
  have hf_PressedPlainsModel_31 := hts (.fieldLink RX3 31 "PressedPlainsModel" "sum" "[I") (by decide +kernel)
  refine lv_aload_n hx hb dX3_noted_0 rfl (lv_at hl 0 rfl) ?_
  refine lv_iload_n hx hb dX3_noted_1 rfl (lv_at hl 1 rfl) ?_
  refine pq_callV (wr := []) (own := RX3) (nL := 2) (q0 := 0) (ci := 3) [0, 1, 2, 3, 4, 5, 6, 7, 8, 9] [] [.int x] (mX3_isEntry l D cI mo z1 z2 z3 z4 z5 z6 z7 z8 z9 col hs cs fi la B td lf laid piled prs thr x) ⟨hx, hb, hml, hown, hts⟩ (cwV 1 hts gX3_noted_X3_isEntry rfl rfl rfl (by decide +kernel) ⟨by dsimp only [pq_R]; omega, by dsimp only [pq_R]; omega⟩) pq_bl0 (fun _ _ _ => trivial) hK hP hD hS hA rfl (by decide) rfl (by decide) (by decide) rfl rfl rfl rfl hl.1 rfl (Nat.le_of_ble_eq_true rfl) dX3_noted_2 ⟨by dsimp only [pq_R]; omega, by dsimp only [pq_R]; omega⟩ (fun v w1 H locs hq hP hD hS hz => ?_)
  rcases hq with ⟨hen, rfl, rfl⟩ | ⟨hen, rfl, rfl⟩
  · have hP : va_P D vwCl [(mo, .inr (3, [.int col, .ref z1, .ref z2, .ref z3, .ref z4, .ref z5, .ref z6, .ref z7, .ref z8, .ref z9, .int lf, .int B.2.2.2.2.1, .int B.2.2.2.2.2.1, .int B.2.2.2.2.2.2, .int laid, .int piled, .int prs, .int 0])), (z1, .inl (cI, 64, .inl hs)), (z2, .inl (cI, 64, .inl cs)), (z3, .inl (cI, 128, .inl fi)), (z4, .inl (cI, 128, .inl la)), (z5, .inl (cI, 128, .inl B.1)), (z6, .inl (cI, 128, .inl B.2.1)), (z7, .inl (cI, 128, .inl B.2.2.1)), (z8, .inl (cI, 128, .inl B.2.2.2.1)), (z9, .inl (cI, 64, .inl td))] H := hP
    have hD : va_D A [(mo, .inr (3, [.int col, .ref z1, .ref z2, .ref z3, .ref z4, .ref z5, .ref z6, .ref z7, .ref z8, .ref z9, .int lf, .int B.2.2.2.2.1, .int B.2.2.2.2.2.1, .int B.2.2.2.2.2.2, .int laid, .int piled, .int prs, .int 0])), (z1, .inl (cI, 64, .inl hs)), (z2, .inl (cI, 64, .inl cs)), (z3, .inl (cI, 128, .inl fi)), (z4, .inl (cI, 128, .inl la)), (z5, .inl (cI, 128, .inl B.1)), (z6, .inl (cI, 128, .inl B.2.1)), (z7, .inl (cI, 128, .inl B.2.2.1)), (z8, .inl (cI, 128, .inl B.2.2.2.1)), (z9, .inl (cI, 64, .inl td))] := hD
    obtain ⟨ke, hke1, hke2, rfl⟩ := entM hen.1
    have hen2 : ¬ fi ke < 0 := by have := hen.2; rwa [nI_clamp (by omega)] at this
    refine W.eq (g2 := F0 m 5 ls [.int 1]) rfl ?_
    refine lv_if_eq (tgt := 17) hx hb dX3_noted_5 (by decide) (fun c9 => absurd c9 (by decide)) (fun _ => ?_)
    refine lv_aload_n hx hb dX3_noted_8 rfl (lv_at hl 0 rfl) ?_
    refine va_get (D := D) (ci := 3) (v := .ref z8) (C := RX3) (T := TX3) (N := 18) hx hb hts hin_X3 hown hK hP 0 rfl rfl 8 (by decide) hf_PressedPlainsModel_31 (fun _ h9 => h9) rfl dX3_noted_9 ?_
    refine lv_iload_n hx hb dX3_noted_12 rfl (lv_at hl 1 rfl) ?_
    refine pq_iald hx hb hK hP 8 0 rfl rfl ke (by omega) (by decide) dX3_noted_13 ?_
    refine lv_goto (tgt := 18) hx hb dX3_noted_14 (by decide) ?_
    exact pq_iret hQ hx hb hr hlocks hK hS hP hD dX3_noted_18 (by omega) (by omega) (Or.inr ⟨ke, rfl, hke1, hke2, hen2, rfl, rfl⟩)
  · have hP : va_P D vwCl [(mo, .inr (3, [.int col, .ref z1, .ref z2, .ref z3, .ref z4, .ref z5, .ref z6, .ref z7, .ref z8, .ref z9, .int lf, .int B.2.2.2.2.1, .int B.2.2.2.2.2.1, .int B.2.2.2.2.2.2, .int laid, .int piled, .int prs, .int 1])), (z1, .inl (cI, 64, .inl hs)), (z2, .inl (cI, 64, .inl cs)), (z3, .inl (cI, 128, .inl fi)), (z4, .inl (cI, 128, .inl la)), (z5, .inl (cI, 128, .inl B.1)), (z6, .inl (cI, 128, .inl B.2.1)), (z7, .inl (cI, 128, .inl B.2.2.1)), (z8, .inl (cI, 128, .inl B.2.2.2.1)), (z9, .inl (cI, 64, .inl td))] H := hP
    have hD : va_D A [(mo, .inr (3, [.int col, .ref z1, .ref z2, .ref z3, .ref z4, .ref z5, .ref z6, .ref z7, .ref z8, .ref z9, .int lf, .int B.2.2.2.2.1, .int B.2.2.2.2.2.1, .int B.2.2.2.2.2.2, .int laid, .int piled, .int prs, .int 1])), (z1, .inl (cI, 64, .inl hs)), (z2, .inl (cI, 64, .inl cs)), (z3, .inl (cI, 128, .inl fi)), (z4, .inl (cI, 128, .inl la)), (z5, .inl (cI, 128, .inl B.1)), (z6, .inl (cI, 128, .inl B.2.1)), (z7, .inl (cI, 128, .inl B.2.2.1)), (z8, .inl (cI, 128, .inl B.2.2.2.1)), (z9, .inl (cI, 64, .inl td))] := hD
    refine W.eq (g2 := F0 m 5 ls [.int 0]) rfl ?_
    refine lv_if_eq (tgt := 17) hx hb dX3_noted_5 (by decide) (fun _ => ?_) (fun c9 => absurd c9 (by decide))
    refine lv_iconst (v := 0) hx hb dX3_noted_17 (by decide) ?_
    exact pq_iret hQ hx hb hr hlocks hK hS hP hD dX3_noted_18 (by omega) (by omega) (Or.inl ⟨hen, rfl, rfl⟩)

set_option maxHeartbeats 4000000 in
set_option maxRecDepth 100000 in
theorem mX3_columns (l : Launch) (D : va_G) (cI : ClassId) (mo z1 z2 z3 z4 z5 z6 z7 z8 z9 : Nat) (col : Int32) (hs cs fi la : Nat → Int32) (B : BK) (td : Nat → Int32) (lf laid piled prs thr : Int32) : pq_M l yX3_columns wsX3_columns 0 0 0 0 D [(cI, .int)] pq_0 (mdW mo z1 z2 z3 z4 z5 z6 z7 z8 z9 cI col hs cs fi la B td lf laid piled prs thr) [.ref mo] (fun v w1 => v = some (.int (col)) ∧ w1 = mdW mo z1 z2 z3 z4 z5 z6 z7 z8 z9 cI col hs cs fi la B td lf laid piled prs 0) := by
  refine pq_enter (cc := cX3_columns) (maxL := 1) (ret := (some .int)) (by decide) rfl (Nat.le_of_ble_eq_true rfl) ?_
  intro p ev s m args below meth cd A ls Q H locs hx hb hr hml hts hown hlocks hnm hK hP hD hS hA hE hl hQ
  have hl : lv_has ls 1 [(0, .ref mo)] := hl
  have hP : va_P D vwCl [(mo, .inr (3, [.int col, .ref z1, .ref z2, .ref z3, .ref z4, .ref z5, .ref z6, .ref z7, .ref z8, .ref z9, .int lf, .int B.2.2.2.2.1, .int B.2.2.2.2.2.1, .int B.2.2.2.2.2.2, .int laid, .int piled, .int prs, .int thr])), (z1, .inl (cI, 64, .inl hs)), (z2, .inl (cI, 64, .inl cs)), (z3, .inl (cI, 128, .inl fi)), (z4, .inl (cI, 128, .inl la)), (z5, .inl (cI, 128, .inl B.1)), (z6, .inl (cI, 128, .inl B.2.1)), (z7, .inl (cI, 128, .inl B.2.2.1)), (z8, .inl (cI, 128, .inl B.2.2.2.1)), (z9, .inl (cI, 64, .inl td))] H := hP
  have hD : va_D A [(mo, .inr (3, [.int col, .ref z1, .ref z2, .ref z3, .ref z4, .ref z5, .ref z6, .ref z7, .ref z8, .ref z9, .int lf, .int B.2.2.2.2.1, .int B.2.2.2.2.2.1, .int B.2.2.2.2.2.2, .int laid, .int piled, .int prs, .int thr])), (z1, .inl (cI, 64, .inl hs)), (z2, .inl (cI, 64, .inl cs)), (z3, .inl (cI, 128, .inl fi)), (z4, .inl (cI, 128, .inl la)), (z5, .inl (cI, 128, .inl B.1)), (z6, .inl (cI, 128, .inl B.2.1)), (z7, .inl (cI, 128, .inl B.2.2.1)), (z8, .inl (cI, 128, .inl B.2.2.2.1)), (z9, .inl (cI, 64, .inl td))] := hD
  have hin_X3 : ∀ w ∈ wsX30, w ∈ wsX3_columns := by decide +kernel
  have hf_PressedPlainsModel_41 := hts (.fieldLink RX3 41 "PressedPlainsModel" "thrown" "I") (by decide +kernel)
  have hf_PressedPlainsModel_45 := hts (.fieldLink RX3 45 "PressedPlainsModel" "columns" "I") (by decide +kernel)
  refine lv_aload_n hx hb dX3_columns_0 rfl (lv_at hl 0 rfl) ?_
  refine lv_iconst (v := 0) hx hb dX3_columns_1 (by decide) ?_
  refine va_put (D := D) (ci := 3) (v := .int 0) (ty := .int) (C := RX3) (T := TX3) (N := 18) hx hb hts hin_X3 tyX3 tyX3_ok nmX3 hown hK hP hD hS 0 rfl rfl 17 (by decide) hf_PressedPlainsModel_41 (fun _ h9 => h9) rfl (by decide +kernel) rfl rfl (Nat.le_of_ble_eq_true rfl) dX3_columns_2 (fun H locs hP hD hS => ?_)
  have hP : va_P D vwCl [(mo, .inr (3, [.int col, .ref z1, .ref z2, .ref z3, .ref z4, .ref z5, .ref z6, .ref z7, .ref z8, .ref z9, .int lf, .int B.2.2.2.2.1, .int B.2.2.2.2.2.1, .int B.2.2.2.2.2.2, .int laid, .int piled, .int prs, .int 0])), (z1, .inl (cI, 64, .inl hs)), (z2, .inl (cI, 64, .inl cs)), (z3, .inl (cI, 128, .inl fi)), (z4, .inl (cI, 128, .inl la)), (z5, .inl (cI, 128, .inl B.1)), (z6, .inl (cI, 128, .inl B.2.1)), (z7, .inl (cI, 128, .inl B.2.2.1)), (z8, .inl (cI, 128, .inl B.2.2.2.1)), (z9, .inl (cI, 64, .inl td))] H := hP
  have hD : va_D A [(mo, .inr (3, [.int col, .ref z1, .ref z2, .ref z3, .ref z4, .ref z5, .ref z6, .ref z7, .ref z8, .ref z9, .int lf, .int B.2.2.2.2.1, .int B.2.2.2.2.2.1, .int B.2.2.2.2.2.2, .int laid, .int piled, .int prs, .int 0])), (z1, .inl (cI, 64, .inl hs)), (z2, .inl (cI, 64, .inl cs)), (z3, .inl (cI, 128, .inl fi)), (z4, .inl (cI, 128, .inl la)), (z5, .inl (cI, 128, .inl B.1)), (z6, .inl (cI, 128, .inl B.2.1)), (z7, .inl (cI, 128, .inl B.2.2.1)), (z8, .inl (cI, 128, .inl B.2.2.2.1)), (z9, .inl (cI, 64, .inl td))] := hD
  refine lv_aload_n hx hb dX3_columns_5 rfl (lv_at hl 0 rfl) ?_
  refine va_get (D := D) (ci := 3) (v := .int col) (C := RX3) (T := TX3) (N := 18) hx hb hts hin_X3 hown hK hP 0 rfl rfl 0 (by decide) hf_PressedPlainsModel_45 (fun _ h9 => h9) rfl dX3_columns_6 ?_
  exact pq_iret hQ hx hb hr hlocks hK hS hP hD dX3_columns_9 (by omega) (by omega) (⟨rfl, rfl⟩)

set_option maxHeartbeats 4000000 in
set_option maxRecDepth 100000 in
theorem mX3_visits (l : Launch) (D : va_G) (cI : ClassId) (mo z1 z2 z3 z4 z5 z6 z7 z8 z9 : Nat) (col : Int32) (hs cs fi la : Nat → Int32) (B : BK) (td : Nat → Int32) (lf laid piled prs thr : Int32) : pq_M l yX3_visits wsX3_visits 0 0 0 0 D [(cI, .int)] pq_0 (mdW mo z1 z2 z3 z4 z5 z6 z7 z8 z9 cI col hs cs fi la B td lf laid piled prs thr) [.ref mo] (fun v w1 => v = some (.int (B.2.2.2.2.1)) ∧ w1 = mdW mo z1 z2 z3 z4 z5 z6 z7 z8 z9 cI col hs cs fi la B td lf laid piled prs 0) := by
  refine pq_enter (cc := cX3_visits) (maxL := 1) (ret := (some .int)) (by decide) rfl (Nat.le_of_ble_eq_true rfl) ?_
  intro p ev s m args below meth cd A ls Q H locs hx hb hr hml hts hown hlocks hnm hK hP hD hS hA hE hl hQ
  have hl : lv_has ls 1 [(0, .ref mo)] := hl
  have hP : va_P D vwCl [(mo, .inr (3, [.int col, .ref z1, .ref z2, .ref z3, .ref z4, .ref z5, .ref z6, .ref z7, .ref z8, .ref z9, .int lf, .int B.2.2.2.2.1, .int B.2.2.2.2.2.1, .int B.2.2.2.2.2.2, .int laid, .int piled, .int prs, .int thr])), (z1, .inl (cI, 64, .inl hs)), (z2, .inl (cI, 64, .inl cs)), (z3, .inl (cI, 128, .inl fi)), (z4, .inl (cI, 128, .inl la)), (z5, .inl (cI, 128, .inl B.1)), (z6, .inl (cI, 128, .inl B.2.1)), (z7, .inl (cI, 128, .inl B.2.2.1)), (z8, .inl (cI, 128, .inl B.2.2.2.1)), (z9, .inl (cI, 64, .inl td))] H := hP
  have hD : va_D A [(mo, .inr (3, [.int col, .ref z1, .ref z2, .ref z3, .ref z4, .ref z5, .ref z6, .ref z7, .ref z8, .ref z9, .int lf, .int B.2.2.2.2.1, .int B.2.2.2.2.2.1, .int B.2.2.2.2.2.2, .int laid, .int piled, .int prs, .int thr])), (z1, .inl (cI, 64, .inl hs)), (z2, .inl (cI, 64, .inl cs)), (z3, .inl (cI, 128, .inl fi)), (z4, .inl (cI, 128, .inl la)), (z5, .inl (cI, 128, .inl B.1)), (z6, .inl (cI, 128, .inl B.2.1)), (z7, .inl (cI, 128, .inl B.2.2.1)), (z8, .inl (cI, 128, .inl B.2.2.2.1)), (z9, .inl (cI, 64, .inl td))] := hD
  have hin_X3 : ∀ w ∈ wsX30, w ∈ wsX3_visits := by decide +kernel
  have hf_PressedPlainsModel_41 := hts (.fieldLink RX3 41 "PressedPlainsModel" "thrown" "I") (by decide +kernel)
  have hf_PressedPlainsModel_52 := hts (.fieldLink RX3 52 "PressedPlainsModel" "visits" "I") (by decide +kernel)
  refine lv_aload_n hx hb dX3_visits_0 rfl (lv_at hl 0 rfl) ?_
  refine lv_iconst (v := 0) hx hb dX3_visits_1 (by decide) ?_
  refine va_put (D := D) (ci := 3) (v := .int 0) (ty := .int) (C := RX3) (T := TX3) (N := 18) hx hb hts hin_X3 tyX3 tyX3_ok nmX3 hown hK hP hD hS 0 rfl rfl 17 (by decide) hf_PressedPlainsModel_41 (fun _ h9 => h9) rfl (by decide +kernel) rfl rfl (Nat.le_of_ble_eq_true rfl) dX3_visits_2 (fun H locs hP hD hS => ?_)
  have hP : va_P D vwCl [(mo, .inr (3, [.int col, .ref z1, .ref z2, .ref z3, .ref z4, .ref z5, .ref z6, .ref z7, .ref z8, .ref z9, .int lf, .int B.2.2.2.2.1, .int B.2.2.2.2.2.1, .int B.2.2.2.2.2.2, .int laid, .int piled, .int prs, .int 0])), (z1, .inl (cI, 64, .inl hs)), (z2, .inl (cI, 64, .inl cs)), (z3, .inl (cI, 128, .inl fi)), (z4, .inl (cI, 128, .inl la)), (z5, .inl (cI, 128, .inl B.1)), (z6, .inl (cI, 128, .inl B.2.1)), (z7, .inl (cI, 128, .inl B.2.2.1)), (z8, .inl (cI, 128, .inl B.2.2.2.1)), (z9, .inl (cI, 64, .inl td))] H := hP
  have hD : va_D A [(mo, .inr (3, [.int col, .ref z1, .ref z2, .ref z3, .ref z4, .ref z5, .ref z6, .ref z7, .ref z8, .ref z9, .int lf, .int B.2.2.2.2.1, .int B.2.2.2.2.2.1, .int B.2.2.2.2.2.2, .int laid, .int piled, .int prs, .int 0])), (z1, .inl (cI, 64, .inl hs)), (z2, .inl (cI, 64, .inl cs)), (z3, .inl (cI, 128, .inl fi)), (z4, .inl (cI, 128, .inl la)), (z5, .inl (cI, 128, .inl B.1)), (z6, .inl (cI, 128, .inl B.2.1)), (z7, .inl (cI, 128, .inl B.2.2.1)), (z8, .inl (cI, 128, .inl B.2.2.2.1)), (z9, .inl (cI, 64, .inl td))] := hD
  refine lv_aload_n hx hb dX3_visits_5 rfl (lv_at hl 0 rfl) ?_
  refine va_get (D := D) (ci := 3) (v := .int B.2.2.2.2.1) (C := RX3) (T := TX3) (N := 18) hx hb hts hin_X3 hown hK hP 0 rfl rfl 11 (by decide) hf_PressedPlainsModel_52 (fun _ h9 => h9) rfl dX3_visits_6 ?_
  exact pq_iret hQ hx hb hr hlocks hK hS hP hD dX3_visits_9 (by omega) (by omega) (⟨rfl, rfl⟩)

set_option maxHeartbeats 4000000 in
set_option maxRecDepth 100000 in
theorem mX3_allVisits (l : Launch) (D : va_G) (cI : ClassId) (mo z1 z2 z3 z4 z5 z6 z7 z8 z9 : Nat) (col : Int32) (hs cs fi la : Nat → Int32) (B : BK) (td : Nat → Int32) (lf laid piled prs thr : Int32) : pq_M l yX3_allVisits wsX3_allVisits 0 0 0 0 D [(cI, .int)] pq_0 (mdW mo z1 z2 z3 z4 z5 z6 z7 z8 z9 cI col hs cs fi la B td lf laid piled prs thr) [.ref mo] (fun v w1 => v = some (.int (B.2.2.2.2.2.1)) ∧ w1 = mdW mo z1 z2 z3 z4 z5 z6 z7 z8 z9 cI col hs cs fi la B td lf laid piled prs 0) := by
  refine pq_enter (cc := cX3_allVisits) (maxL := 1) (ret := (some .int)) (by decide) rfl (Nat.le_of_ble_eq_true rfl) ?_
  intro p ev s m args below meth cd A ls Q H locs hx hb hr hml hts hown hlocks hnm hK hP hD hS hA hE hl hQ
  have hl : lv_has ls 1 [(0, .ref mo)] := hl
  have hP : va_P D vwCl [(mo, .inr (3, [.int col, .ref z1, .ref z2, .ref z3, .ref z4, .ref z5, .ref z6, .ref z7, .ref z8, .ref z9, .int lf, .int B.2.2.2.2.1, .int B.2.2.2.2.2.1, .int B.2.2.2.2.2.2, .int laid, .int piled, .int prs, .int thr])), (z1, .inl (cI, 64, .inl hs)), (z2, .inl (cI, 64, .inl cs)), (z3, .inl (cI, 128, .inl fi)), (z4, .inl (cI, 128, .inl la)), (z5, .inl (cI, 128, .inl B.1)), (z6, .inl (cI, 128, .inl B.2.1)), (z7, .inl (cI, 128, .inl B.2.2.1)), (z8, .inl (cI, 128, .inl B.2.2.2.1)), (z9, .inl (cI, 64, .inl td))] H := hP
  have hD : va_D A [(mo, .inr (3, [.int col, .ref z1, .ref z2, .ref z3, .ref z4, .ref z5, .ref z6, .ref z7, .ref z8, .ref z9, .int lf, .int B.2.2.2.2.1, .int B.2.2.2.2.2.1, .int B.2.2.2.2.2.2, .int laid, .int piled, .int prs, .int thr])), (z1, .inl (cI, 64, .inl hs)), (z2, .inl (cI, 64, .inl cs)), (z3, .inl (cI, 128, .inl fi)), (z4, .inl (cI, 128, .inl la)), (z5, .inl (cI, 128, .inl B.1)), (z6, .inl (cI, 128, .inl B.2.1)), (z7, .inl (cI, 128, .inl B.2.2.1)), (z8, .inl (cI, 128, .inl B.2.2.2.1)), (z9, .inl (cI, 64, .inl td))] := hD
  have hin_X3 : ∀ w ∈ wsX30, w ∈ wsX3_allVisits := by decide +kernel
  have hf_PressedPlainsModel_41 := hts (.fieldLink RX3 41 "PressedPlainsModel" "thrown" "I") (by decide +kernel)
  have hf_PressedPlainsModel_55 := hts (.fieldLink RX3 55 "PressedPlainsModel" "allVisits" "I") (by decide +kernel)
  refine lv_aload_n hx hb dX3_allVisits_0 rfl (lv_at hl 0 rfl) ?_
  refine lv_iconst (v := 0) hx hb dX3_allVisits_1 (by decide) ?_
  refine va_put (D := D) (ci := 3) (v := .int 0) (ty := .int) (C := RX3) (T := TX3) (N := 18) hx hb hts hin_X3 tyX3 tyX3_ok nmX3 hown hK hP hD hS 0 rfl rfl 17 (by decide) hf_PressedPlainsModel_41 (fun _ h9 => h9) rfl (by decide +kernel) rfl rfl (Nat.le_of_ble_eq_true rfl) dX3_allVisits_2 (fun H locs hP hD hS => ?_)
  have hP : va_P D vwCl [(mo, .inr (3, [.int col, .ref z1, .ref z2, .ref z3, .ref z4, .ref z5, .ref z6, .ref z7, .ref z8, .ref z9, .int lf, .int B.2.2.2.2.1, .int B.2.2.2.2.2.1, .int B.2.2.2.2.2.2, .int laid, .int piled, .int prs, .int 0])), (z1, .inl (cI, 64, .inl hs)), (z2, .inl (cI, 64, .inl cs)), (z3, .inl (cI, 128, .inl fi)), (z4, .inl (cI, 128, .inl la)), (z5, .inl (cI, 128, .inl B.1)), (z6, .inl (cI, 128, .inl B.2.1)), (z7, .inl (cI, 128, .inl B.2.2.1)), (z8, .inl (cI, 128, .inl B.2.2.2.1)), (z9, .inl (cI, 64, .inl td))] H := hP
  have hD : va_D A [(mo, .inr (3, [.int col, .ref z1, .ref z2, .ref z3, .ref z4, .ref z5, .ref z6, .ref z7, .ref z8, .ref z9, .int lf, .int B.2.2.2.2.1, .int B.2.2.2.2.2.1, .int B.2.2.2.2.2.2, .int laid, .int piled, .int prs, .int 0])), (z1, .inl (cI, 64, .inl hs)), (z2, .inl (cI, 64, .inl cs)), (z3, .inl (cI, 128, .inl fi)), (z4, .inl (cI, 128, .inl la)), (z5, .inl (cI, 128, .inl B.1)), (z6, .inl (cI, 128, .inl B.2.1)), (z7, .inl (cI, 128, .inl B.2.2.1)), (z8, .inl (cI, 128, .inl B.2.2.2.1)), (z9, .inl (cI, 64, .inl td))] := hD
  refine lv_aload_n hx hb dX3_allVisits_5 rfl (lv_at hl 0 rfl) ?_
  refine va_get (D := D) (ci := 3) (v := .int B.2.2.2.2.2.1) (C := RX3) (T := TX3) (N := 18) hx hb hts hin_X3 hown hK hP 0 rfl rfl 12 (by decide) hf_PressedPlainsModel_55 (fun _ h9 => h9) rfl dX3_allVisits_6 ?_
  exact pq_iret hQ hx hb hr hlocks hK hS hP hD dX3_allVisits_9 (by omega) (by omega) (⟨rfl, rfl⟩)

set_option maxHeartbeats 4000000 in
set_option maxRecDepth 100000 in
theorem mX3_pressedAway (l : Launch) (D : va_G) (cI : ClassId) (mo z1 z2 z3 z4 z5 z6 z7 z8 z9 : Nat) (col : Int32) (hs cs fi la : Nat → Int32) (B : BK) (td : Nat → Int32) (lf laid piled prs thr : Int32) : pq_M l yX3_pressedAway wsX3_pressedAway 0 0 0 0 D [(cI, .int)] pq_0 (mdW mo z1 z2 z3 z4 z5 z6 z7 z8 z9 cI col hs cs fi la B td lf laid piled prs thr) [.ref mo] (fun v w1 => v = some (.int (prs)) ∧ w1 = mdW mo z1 z2 z3 z4 z5 z6 z7 z8 z9 cI col hs cs fi la B td lf laid piled prs 0) := by
  refine pq_enter (cc := cX3_pressedAway) (maxL := 1) (ret := (some .int)) (by decide) rfl (Nat.le_of_ble_eq_true rfl) ?_
  intro p ev s m args below meth cd A ls Q H locs hx hb hr hml hts hown hlocks hnm hK hP hD hS hA hE hl hQ
  have hl : lv_has ls 1 [(0, .ref mo)] := hl
  have hP : va_P D vwCl [(mo, .inr (3, [.int col, .ref z1, .ref z2, .ref z3, .ref z4, .ref z5, .ref z6, .ref z7, .ref z8, .ref z9, .int lf, .int B.2.2.2.2.1, .int B.2.2.2.2.2.1, .int B.2.2.2.2.2.2, .int laid, .int piled, .int prs, .int thr])), (z1, .inl (cI, 64, .inl hs)), (z2, .inl (cI, 64, .inl cs)), (z3, .inl (cI, 128, .inl fi)), (z4, .inl (cI, 128, .inl la)), (z5, .inl (cI, 128, .inl B.1)), (z6, .inl (cI, 128, .inl B.2.1)), (z7, .inl (cI, 128, .inl B.2.2.1)), (z8, .inl (cI, 128, .inl B.2.2.2.1)), (z9, .inl (cI, 64, .inl td))] H := hP
  have hD : va_D A [(mo, .inr (3, [.int col, .ref z1, .ref z2, .ref z3, .ref z4, .ref z5, .ref z6, .ref z7, .ref z8, .ref z9, .int lf, .int B.2.2.2.2.1, .int B.2.2.2.2.2.1, .int B.2.2.2.2.2.2, .int laid, .int piled, .int prs, .int thr])), (z1, .inl (cI, 64, .inl hs)), (z2, .inl (cI, 64, .inl cs)), (z3, .inl (cI, 128, .inl fi)), (z4, .inl (cI, 128, .inl la)), (z5, .inl (cI, 128, .inl B.1)), (z6, .inl (cI, 128, .inl B.2.1)), (z7, .inl (cI, 128, .inl B.2.2.1)), (z8, .inl (cI, 128, .inl B.2.2.2.1)), (z9, .inl (cI, 64, .inl td))] := hD
  have hin_X3 : ∀ w ∈ wsX30, w ∈ wsX3_pressedAway := by decide +kernel
  have hf_PressedPlainsModel_41 := hts (.fieldLink RX3 41 "PressedPlainsModel" "thrown" "I") (by decide +kernel)
  have hf_PressedPlainsModel_67 := hts (.fieldLink RX3 67 "PressedPlainsModel" "pressed" "I") (by decide +kernel)
  refine lv_aload_n hx hb dX3_pressedAway_0 rfl (lv_at hl 0 rfl) ?_
  refine lv_iconst (v := 0) hx hb dX3_pressedAway_1 (by decide) ?_
  refine va_put (D := D) (ci := 3) (v := .int 0) (ty := .int) (C := RX3) (T := TX3) (N := 18) hx hb hts hin_X3 tyX3 tyX3_ok nmX3 hown hK hP hD hS 0 rfl rfl 17 (by decide) hf_PressedPlainsModel_41 (fun _ h9 => h9) rfl (by decide +kernel) rfl rfl (Nat.le_of_ble_eq_true rfl) dX3_pressedAway_2 (fun H locs hP hD hS => ?_)
  have hP : va_P D vwCl [(mo, .inr (3, [.int col, .ref z1, .ref z2, .ref z3, .ref z4, .ref z5, .ref z6, .ref z7, .ref z8, .ref z9, .int lf, .int B.2.2.2.2.1, .int B.2.2.2.2.2.1, .int B.2.2.2.2.2.2, .int laid, .int piled, .int prs, .int 0])), (z1, .inl (cI, 64, .inl hs)), (z2, .inl (cI, 64, .inl cs)), (z3, .inl (cI, 128, .inl fi)), (z4, .inl (cI, 128, .inl la)), (z5, .inl (cI, 128, .inl B.1)), (z6, .inl (cI, 128, .inl B.2.1)), (z7, .inl (cI, 128, .inl B.2.2.1)), (z8, .inl (cI, 128, .inl B.2.2.2.1)), (z9, .inl (cI, 64, .inl td))] H := hP
  have hD : va_D A [(mo, .inr (3, [.int col, .ref z1, .ref z2, .ref z3, .ref z4, .ref z5, .ref z6, .ref z7, .ref z8, .ref z9, .int lf, .int B.2.2.2.2.1, .int B.2.2.2.2.2.1, .int B.2.2.2.2.2.2, .int laid, .int piled, .int prs, .int 0])), (z1, .inl (cI, 64, .inl hs)), (z2, .inl (cI, 64, .inl cs)), (z3, .inl (cI, 128, .inl fi)), (z4, .inl (cI, 128, .inl la)), (z5, .inl (cI, 128, .inl B.1)), (z6, .inl (cI, 128, .inl B.2.1)), (z7, .inl (cI, 128, .inl B.2.2.1)), (z8, .inl (cI, 128, .inl B.2.2.2.1)), (z9, .inl (cI, 64, .inl td))] := hD
  refine lv_aload_n hx hb dX3_pressedAway_5 rfl (lv_at hl 0 rfl) ?_
  refine va_get (D := D) (ci := 3) (v := .int prs) (C := RX3) (T := TX3) (N := 18) hx hb hts hin_X3 hown hK hP 0 rfl rfl 16 (by decide) hf_PressedPlainsModel_67 (fun _ h9 => h9) rfl dX3_pressedAway_6 ?_
  exact pq_iret hQ hx hb hr hlocks hK hS hP hD dX3_pressedAway_9 (by omega) (by omega) (⟨rfl, rfl⟩)

set_option maxHeartbeats 4000000 in
set_option maxRecDepth 100000 in
theorem mX3_thrown (l : Launch) (D : va_G) (cI : ClassId) (mo z1 z2 z3 z4 z5 z6 z7 z8 z9 : Nat) (col : Int32) (hs cs fi la : Nat → Int32) (B : BK) (td : Nat → Int32) (lf laid piled prs thr : Int32) : pq_M l yX3_thrown wsX3_thrown 0 0 0 0 D [(cI, .int)] pq_0 (mdW mo z1 z2 z3 z4 z5 z6 z7 z8 z9 cI col hs cs fi la B td lf laid piled prs thr) [.ref mo] (fun v w1 => v = some (.int (thr)) ∧ w1 = mdW mo z1 z2 z3 z4 z5 z6 z7 z8 z9 cI col hs cs fi la B td lf laid piled prs thr) := by
  refine pq_enter (cc := cX3_thrown) (maxL := 1) (ret := (some .int)) (by decide) rfl (Nat.le_of_ble_eq_true rfl) ?_
  intro p ev s m args below meth cd A ls Q H locs hx hb hr hml hts hown hlocks hnm hK hP hD hS hA hE hl hQ
  have hl : lv_has ls 1 [(0, .ref mo)] := hl
  have hP : va_P D vwCl [(mo, .inr (3, [.int col, .ref z1, .ref z2, .ref z3, .ref z4, .ref z5, .ref z6, .ref z7, .ref z8, .ref z9, .int lf, .int B.2.2.2.2.1, .int B.2.2.2.2.2.1, .int B.2.2.2.2.2.2, .int laid, .int piled, .int prs, .int thr])), (z1, .inl (cI, 64, .inl hs)), (z2, .inl (cI, 64, .inl cs)), (z3, .inl (cI, 128, .inl fi)), (z4, .inl (cI, 128, .inl la)), (z5, .inl (cI, 128, .inl B.1)), (z6, .inl (cI, 128, .inl B.2.1)), (z7, .inl (cI, 128, .inl B.2.2.1)), (z8, .inl (cI, 128, .inl B.2.2.2.1)), (z9, .inl (cI, 64, .inl td))] H := hP
  have hD : va_D A [(mo, .inr (3, [.int col, .ref z1, .ref z2, .ref z3, .ref z4, .ref z5, .ref z6, .ref z7, .ref z8, .ref z9, .int lf, .int B.2.2.2.2.1, .int B.2.2.2.2.2.1, .int B.2.2.2.2.2.2, .int laid, .int piled, .int prs, .int thr])), (z1, .inl (cI, 64, .inl hs)), (z2, .inl (cI, 64, .inl cs)), (z3, .inl (cI, 128, .inl fi)), (z4, .inl (cI, 128, .inl la)), (z5, .inl (cI, 128, .inl B.1)), (z6, .inl (cI, 128, .inl B.2.1)), (z7, .inl (cI, 128, .inl B.2.2.1)), (z8, .inl (cI, 128, .inl B.2.2.2.1)), (z9, .inl (cI, 64, .inl td))] := hD
  have hin_X3 : ∀ w ∈ wsX30, w ∈ wsX3_thrown := by decide +kernel
  have hf_PressedPlainsModel_41 := hts (.fieldLink RX3 41 "PressedPlainsModel" "thrown" "I") (by decide +kernel)
  refine lv_aload_n hx hb dX3_thrown_0 rfl (lv_at hl 0 rfl) ?_
  refine va_get (D := D) (ci := 3) (v := .int thr) (C := RX3) (T := TX3) (N := 18) hx hb hts hin_X3 hown hK hP 0 rfl rfl 17 (by decide) hf_PressedPlainsModel_41 (fun _ h9 => h9) rfl dX3_thrown_1 ?_
  exact pq_iret hQ hx hb hr hlocks hK hS hP hD dX3_thrown_4 (by omega) (by omega) (⟨rfl, rfl⟩)

set_option maxHeartbeats 4000000 in
set_option maxRecDepth 100000 in
theorem mX3_pressedAwayByRest (l : Launch) (D : va_G) (cI : ClassId) (mo z1 z2 z3 z4 z5 z6 z7 z8 z9 : Nat) (col : Int32) (hs cs fi la : Nat → Int32) (B : BK) (td : Nat → Int32) (lf laid piled prs thr : Int32) (N : Nat) (hN : col = nI N) (hN1 : 1 ≤ N) (hN2 : N ≤ 64) : pq_M l yX3_pressedAwayByRest wsX3_pressedAwayByRest 1 25 0 0 D [(cI, .int)] pq_0 (mdW mo z1 z2 z3 z4 z5 z6 z7 z8 z9 cI col hs cs fi la B td lf laid piled prs thr) [.ref mo] (fun v w1 => v = some (.int (laid + piled - mAbove hs 0 (N - 1 + 1 - 0) 0)) ∧ w1 = mdW mo z1 z2 z3 z4 z5 z6 z7 z8 z9 cI col hs cs fi la B td lf laid piled prs 0) := by
  refine pq_enter (cc := cX3_pressedAwayByRest) (maxL := 1) (ret := (some .int)) (by decide) rfl (Nat.le_of_ble_eq_true rfl) ?_
  intro p ev s m args below meth cd A ls Q H locs hx hb hr hml hts hown hlocks hnm hK hP hD hS hA hE hl hQ
  have hl : lv_has ls 1 [(0, .ref mo)] := hl
  have hP : va_P D vwCl [(mo, .inr (3, [.int col, .ref z1, .ref z2, .ref z3, .ref z4, .ref z5, .ref z6, .ref z7, .ref z8, .ref z9, .int lf, .int B.2.2.2.2.1, .int B.2.2.2.2.2.1, .int B.2.2.2.2.2.2, .int laid, .int piled, .int prs, .int thr])), (z1, .inl (cI, 64, .inl hs)), (z2, .inl (cI, 64, .inl cs)), (z3, .inl (cI, 128, .inl fi)), (z4, .inl (cI, 128, .inl la)), (z5, .inl (cI, 128, .inl B.1)), (z6, .inl (cI, 128, .inl B.2.1)), (z7, .inl (cI, 128, .inl B.2.2.1)), (z8, .inl (cI, 128, .inl B.2.2.2.1)), (z9, .inl (cI, 64, .inl td))] H := hP
  have hD : va_D A [(mo, .inr (3, [.int col, .ref z1, .ref z2, .ref z3, .ref z4, .ref z5, .ref z6, .ref z7, .ref z8, .ref z9, .int lf, .int B.2.2.2.2.1, .int B.2.2.2.2.2.1, .int B.2.2.2.2.2.2, .int laid, .int piled, .int prs, .int thr])), (z1, .inl (cI, 64, .inl hs)), (z2, .inl (cI, 64, .inl cs)), (z3, .inl (cI, 128, .inl fi)), (z4, .inl (cI, 128, .inl la)), (z5, .inl (cI, 128, .inl B.1)), (z6, .inl (cI, 128, .inl B.2.1)), (z7, .inl (cI, 128, .inl B.2.2.1)), (z8, .inl (cI, 128, .inl B.2.2.2.1)), (z9, .inl (cI, 64, .inl td))] := hD
  have hin_X3 : ∀ w ∈ wsX30, w ∈ wsX3_pressedAwayByRest := by decide +kernel
  have hf_PressedPlainsModel_41 := hts (.fieldLink RX3 41 "PressedPlainsModel" "thrown" "I") (by decide +kernel)
  have hf_PressedPlainsModel_61 := hts (.fieldLink RX3 61 "PressedPlainsModel" "laid" "I") (by decide +kernel)
  have hf_PressedPlainsModel_64 := hts (.fieldLink RX3 64 "PressedPlainsModel" "piled" "I") (by decide +kernel)
  have hf_PressedPlainsModel_45 := hts (.fieldLink RX3 45 "PressedPlainsModel" "columns" "I") (by decide +kernel)
  refine lv_aload_n hx hb dX3_pressedAwayByRest_0 rfl (lv_at hl 0 rfl) ?_
  refine lv_iconst (v := 0) hx hb dX3_pressedAwayByRest_1 (by decide) ?_
  refine va_put (D := D) (ci := 3) (v := .int 0) (ty := .int) (C := RX3) (T := TX3) (N := 18) hx hb hts hin_X3 tyX3 tyX3_ok nmX3 hown hK hP hD hS 0 rfl rfl 17 (by decide) hf_PressedPlainsModel_41 (fun _ h9 => h9) rfl (by decide +kernel) rfl rfl (Nat.le_of_ble_eq_true rfl) dX3_pressedAwayByRest_2 (fun H locs hP hD hS => ?_)
  have hP : va_P D vwCl [(mo, .inr (3, [.int col, .ref z1, .ref z2, .ref z3, .ref z4, .ref z5, .ref z6, .ref z7, .ref z8, .ref z9, .int lf, .int B.2.2.2.2.1, .int B.2.2.2.2.2.1, .int B.2.2.2.2.2.2, .int laid, .int piled, .int prs, .int 0])), (z1, .inl (cI, 64, .inl hs)), (z2, .inl (cI, 64, .inl cs)), (z3, .inl (cI, 128, .inl fi)), (z4, .inl (cI, 128, .inl la)), (z5, .inl (cI, 128, .inl B.1)), (z6, .inl (cI, 128, .inl B.2.1)), (z7, .inl (cI, 128, .inl B.2.2.1)), (z8, .inl (cI, 128, .inl B.2.2.2.1)), (z9, .inl (cI, 64, .inl td))] H := hP
  have hD : va_D A [(mo, .inr (3, [.int col, .ref z1, .ref z2, .ref z3, .ref z4, .ref z5, .ref z6, .ref z7, .ref z8, .ref z9, .int lf, .int B.2.2.2.2.1, .int B.2.2.2.2.2.1, .int B.2.2.2.2.2.2, .int laid, .int piled, .int prs, .int 0])), (z1, .inl (cI, 64, .inl hs)), (z2, .inl (cI, 64, .inl cs)), (z3, .inl (cI, 128, .inl fi)), (z4, .inl (cI, 128, .inl la)), (z5, .inl (cI, 128, .inl B.1)), (z6, .inl (cI, 128, .inl B.2.1)), (z7, .inl (cI, 128, .inl B.2.2.1)), (z8, .inl (cI, 128, .inl B.2.2.2.1)), (z9, .inl (cI, 64, .inl td))] := hD
  refine lv_aload_n hx hb dX3_pressedAwayByRest_5 rfl (lv_at hl 0 rfl) ?_
  refine va_get (D := D) (ci := 3) (v := .int laid) (C := RX3) (T := TX3) (N := 18) hx hb hts hin_X3 hown hK hP 0 rfl rfl 14 (by decide) hf_PressedPlainsModel_61 (fun _ h9 => h9) rfl dX3_pressedAwayByRest_6 ?_
  refine lv_aload_n hx hb dX3_pressedAwayByRest_9 rfl (lv_at hl 0 rfl) ?_
  refine va_get (D := D) (ci := 3) (v := .int piled) (C := RX3) (T := TX3) (N := 18) hx hb hts hin_X3 hown hK hP 0 rfl rfl 15 (by decide) hf_PressedPlainsModel_64 (fun _ h9 => h9) rfl dX3_pressedAwayByRest_10 ?_
  refine lv_iadd hx hb dX3_pressedAwayByRest_13 ?_
  refine lv_aload_n hx hb dX3_pressedAwayByRest_14 rfl (lv_at hl 0 rfl) ?_
  refine lv_iconst (v := 0) hx hb dX3_pressedAwayByRest_15 (by decide) ?_
  refine lv_aload_n hx hb dX3_pressedAwayByRest_16 rfl (lv_at hl 0 rfl) ?_
  refine va_get (D := D) (ci := 3) (v := .int col) (C := RX3) (T := TX3) (N := 18) hx hb hts hin_X3 hown hK hP 0 rfl rfl 0 (by decide) hf_PressedPlainsModel_45 (fun _ h9 => h9) rfl dX3_pressedAwayByRest_17 ?_
  refine pq_top (nI N) hN ?_
  refine lv_iconst (v := 1) hx hb dX3_pressedAwayByRest_20 (by decide) ?_
  refine lv_isub hx hb dX3_pressedAwayByRest_21 ?_
  refine pq_top (nI (N - 1)) (pk_sub (b := 1) (by omega)) ?_
  refine lv_iconst (v := 0) hx hb dX3_pressedAwayByRest_22 (by decide) ?_
  refine pq_callV (wr := []) (own := RX3) (nL := 1) (q0 := 0) (ci := 3) [0, 1, 2, 3, 4, 5, 6, 7, 8, 9] [] [.int 0, .int (nI (N - 1)), .int 0] (mX3_presses l D cI mo z1 z2 z3 z4 z5 z6 z7 z8 z9 col hs cs fi la B td lf laid piled prs 0 0 (N - 1) 0 (by omega) (by omega)) ⟨hx, hb, hml, hown, hts⟩ (cwV 3 hts gX3_pressedAwayByRest_X3_presses rfl rfl rfl (by decide +kernel) ⟨by dsimp only [pq_R]; omega, by dsimp only [pq_R]; omega⟩) pq_bl0 (fun _ _ _ => trivial) hK hP hD hS hA rfl (by decide) rfl (by decide) (by decide) rfl rfl rfl rfl hl.1 rfl (Nat.le_of_ble_eq_true rfl) dX3_pressedAwayByRest_23 ⟨by dsimp only [pq_R]; omega, by dsimp only [pq_R]; omega⟩ (fun v w1 H locs hq hP hD hS hz => ?_)
  obtain ⟨rfl, rfl⟩ := hq
  have hP : va_P D vwCl [(mo, .inr (3, [.int col, .ref z1, .ref z2, .ref z3, .ref z4, .ref z5, .ref z6, .ref z7, .ref z8, .ref z9, .int lf, .int B.2.2.2.2.1, .int B.2.2.2.2.2.1, .int B.2.2.2.2.2.2, .int laid, .int piled, .int prs, .int 0])), (z1, .inl (cI, 64, .inl hs)), (z2, .inl (cI, 64, .inl cs)), (z3, .inl (cI, 128, .inl fi)), (z4, .inl (cI, 128, .inl la)), (z5, .inl (cI, 128, .inl B.1)), (z6, .inl (cI, 128, .inl B.2.1)), (z7, .inl (cI, 128, .inl B.2.2.1)), (z8, .inl (cI, 128, .inl B.2.2.2.1)), (z9, .inl (cI, 64, .inl td))] H := hP
  have hD : va_D A [(mo, .inr (3, [.int col, .ref z1, .ref z2, .ref z3, .ref z4, .ref z5, .ref z6, .ref z7, .ref z8, .ref z9, .int lf, .int B.2.2.2.2.1, .int B.2.2.2.2.2.1, .int B.2.2.2.2.2.2, .int laid, .int piled, .int prs, .int 0])), (z1, .inl (cI, 64, .inl hs)), (z2, .inl (cI, 64, .inl cs)), (z3, .inl (cI, 128, .inl fi)), (z4, .inl (cI, 128, .inl la)), (z5, .inl (cI, 128, .inl B.1)), (z6, .inl (cI, 128, .inl B.2.1)), (z7, .inl (cI, 128, .inl B.2.2.1)), (z8, .inl (cI, 128, .inl B.2.2.2.1)), (z9, .inl (cI, 64, .inl td))] := hD
  refine W.eq (g2 := F0 m 26 ls [.int (mAbove hs 0 ((N - 1) + 1 - 0) 0), .int (laid + piled)]) rfl ?_
  refine lv_isub hx hb dX3_pressedAwayByRest_26 ?_
  exact pq_iret hQ hx hb hr hlocks hK hS hP hD dX3_pressedAwayByRest_27 (by omega) (by omega) (⟨rfl, rfl⟩)

set_option maxHeartbeats 4000000 in
set_option maxRecDepth 100000 in
theorem mX3_lagging (l : Launch) (D : va_G) (cI : ClassId) (mo z1 z2 z3 z4 z5 z6 z7 z8 z9 : Nat) (col : Int32) (hs cs fi la : Nat → Int32) (B : BK) (td : Nat → Int32) (lf laid piled prs thr : Int32) : pq_M l yX3_lagging wsX3_lagging 0 0 0 0 D [(cI, .int)] pq_0 (mdW mo z1 z2 z3 z4 z5 z6 z7 z8 z9 cI col hs cs fi la B td lf laid piled prs thr) [.ref mo] (fun v w1 => v = some (.int (mLags fi B 126)) ∧ w1 = mdW mo z1 z2 z3 z4 z5 z6 z7 z8 z9 cI col hs cs fi la B td lf laid piled prs 0) := by
  refine pq_enter (cc := cX3_lagging) (maxL := 3) (ret := (some .int)) (by decide) rfl (Nat.le_of_ble_eq_true rfl) ?_
  intro p ev s m args below meth cd A ls Q H locs hx hb hr hml hts hown hlocks hnm hK hP hD hS hA hE hl hQ
  have hl : lv_has ls 3 [(0, .ref mo)] := hl
  have hP : va_P D vwCl [(mo, .inr (3, [.int col, .ref z1, .ref z2, .ref z3, .ref z4, .ref z5, .ref z6, .ref z7, .ref z8, .ref z9, .int lf, .int B.2.2.2.2.1, .int B.2.2.2.2.2.1, .int B.2.2.2.2.2.2, .int laid, .int piled, .int prs, .int thr])), (z1, .inl (cI, 64, .inl hs)), (z2, .inl (cI, 64, .inl cs)), (z3, .inl (cI, 128, .inl fi)), (z4, .inl (cI, 128, .inl la)), (z5, .inl (cI, 128, .inl B.1)), (z6, .inl (cI, 128, .inl B.2.1)), (z7, .inl (cI, 128, .inl B.2.2.1)), (z8, .inl (cI, 128, .inl B.2.2.2.1)), (z9, .inl (cI, 64, .inl td))] H := hP
  have hD : va_D A [(mo, .inr (3, [.int col, .ref z1, .ref z2, .ref z3, .ref z4, .ref z5, .ref z6, .ref z7, .ref z8, .ref z9, .int lf, .int B.2.2.2.2.1, .int B.2.2.2.2.2.1, .int B.2.2.2.2.2.2, .int laid, .int piled, .int prs, .int thr])), (z1, .inl (cI, 64, .inl hs)), (z2, .inl (cI, 64, .inl cs)), (z3, .inl (cI, 128, .inl fi)), (z4, .inl (cI, 128, .inl la)), (z5, .inl (cI, 128, .inl B.1)), (z6, .inl (cI, 128, .inl B.2.1)), (z7, .inl (cI, 128, .inl B.2.2.1)), (z8, .inl (cI, 128, .inl B.2.2.2.1)), (z9, .inl (cI, 64, .inl td))] := hD
  have hin_X3 : ∀ w ∈ wsX30, w ∈ wsX3_lagging := by decide +kernel
  have hf_PressedPlainsModel_41 := hts (.fieldLink RX3 41 "PressedPlainsModel" "thrown" "I") (by decide +kernel)
  have hf_PressedPlainsModel_16 := hts (.fieldLink RX3 16 "PressedPlainsModel" "first" "[I") (by decide +kernel)
  have hf_PressedPlainsModel_22 := hts (.fieldLink RX3 22 "PressedPlainsModel" "greatest" "[I") (by decide +kernel)
  refine lv_aload_n hx hb dX3_lagging_0 rfl (lv_at hl 0 rfl) ?_
  refine lv_iconst (v := 0) hx hb dX3_lagging_1 (by decide) ?_
  refine va_put (D := D) (ci := 3) (v := .int 0) (ty := .int) (C := RX3) (T := TX3) (N := 18) hx hb hts hin_X3 tyX3 tyX3_ok nmX3 hown hK hP hD hS 0 rfl rfl 17 (by decide) hf_PressedPlainsModel_41 (fun _ h9 => h9) rfl (by decide +kernel) rfl rfl (Nat.le_of_ble_eq_true rfl) dX3_lagging_2 (fun H locs hP hD hS => ?_)
  have hP : va_P D vwCl [(mo, .inr (3, [.int col, .ref z1, .ref z2, .ref z3, .ref z4, .ref z5, .ref z6, .ref z7, .ref z8, .ref z9, .int lf, .int B.2.2.2.2.1, .int B.2.2.2.2.2.1, .int B.2.2.2.2.2.2, .int laid, .int piled, .int prs, .int 0])), (z1, .inl (cI, 64, .inl hs)), (z2, .inl (cI, 64, .inl cs)), (z3, .inl (cI, 128, .inl fi)), (z4, .inl (cI, 128, .inl la)), (z5, .inl (cI, 128, .inl B.1)), (z6, .inl (cI, 128, .inl B.2.1)), (z7, .inl (cI, 128, .inl B.2.2.1)), (z8, .inl (cI, 128, .inl B.2.2.2.1)), (z9, .inl (cI, 64, .inl td))] H := hP
  have hD : va_D A [(mo, .inr (3, [.int col, .ref z1, .ref z2, .ref z3, .ref z4, .ref z5, .ref z6, .ref z7, .ref z8, .ref z9, .int lf, .int B.2.2.2.2.1, .int B.2.2.2.2.2.1, .int B.2.2.2.2.2.2, .int laid, .int piled, .int prs, .int 0])), (z1, .inl (cI, 64, .inl hs)), (z2, .inl (cI, 64, .inl cs)), (z3, .inl (cI, 128, .inl fi)), (z4, .inl (cI, 128, .inl la)), (z5, .inl (cI, 128, .inl B.1)), (z6, .inl (cI, 128, .inl B.2.1)), (z7, .inl (cI, 128, .inl B.2.2.1)), (z8, .inl (cI, 128, .inl B.2.2.2.1)), (z9, .inl (cI, 64, .inl td))] := hD
  refine lv_iconst (v := 0) hx hb dX3_lagging_5 (by decide) ?_
  refine lv_istore_n (lv' := [(1, .int 0), (0, .ref mo)]) hx hb dX3_lagging_6 rfl hl (by decide) rfl (fun ls hl => ?_)
  refine lv_iconst (v := 2) hx hb dX3_lagging_7 (by decide) ?_
  refine lv_istore_n (lv' := [(2, .int 2), (1, .int 0), (0, .ref mo)]) hx hb dX3_lagging_8 rfl hl (by decide) rfl (fun ls hl => ?_)
  have LP : ∀ (n : Nat) (kk : Nat) (r : Int32), 128 - kk < n → 2 ≤ kk → kk ≤ 128 → r = mLags fi B (kk - 2) → ∀ (H : Heap) (locs : List Loc) (ls : Array Slot), va_P D vwCl [(mo, .inr (3, [.int col, .ref z1, .ref z2, .ref z3, .ref z4, .ref z5, .ref z6, .ref z7, .ref z8, .ref z9, .int lf, .int B.2.2.2.2.1, .int B.2.2.2.2.2.1, .int B.2.2.2.2.2.2, .int laid, .int piled, .int prs, .int 0])), (z1, .inl (cI, 64, .inl hs)), (z2, .inl (cI, 64, .inl cs)), (z3, .inl (cI, 128, .inl fi)), (z4, .inl (cI, 128, .inl la)), (z5, .inl (cI, 128, .inl B.1)), (z6, .inl (cI, 128, .inl B.2.1)), (z7, .inl (cI, 128, .inl B.2.2.1)), (z8, .inl (cI, 128, .inl B.2.2.2.1)), (z9, .inl (cI, 64, .inl td))] H → va_D A [(mo, .inr (3, [.int col, .ref z1, .ref z2, .ref z3, .ref z4, .ref z5, .ref z6, .ref z7, .ref z8, .ref z9, .int lf, .int B.2.2.2.2.1, .int B.2.2.2.2.2.1, .int B.2.2.2.2.2.2, .int laid, .int piled, .int prs, .int 0])), (z1, .inl (cI, 64, .inl hs)), (z2, .inl (cI, 64, .inl cs)), (z3, .inl (cI, 128, .inl fi)), (z4, .inl (cI, 128, .inl la)), (z5, .inl (cI, 128, .inl B.1)), (z6, .inl (cI, 128, .inl B.2.1)), (z7, .inl (cI, 128, .inl B.2.2.1)), (z8, .inl (cI, 128, .inl B.2.2.2.1)), (z9, .inl (cI, 64, .inl td))] → va_S A s.heap H locs → lv_has ls 3 [(2, .int (nI kk)), (1, .int r), (0, .ref mo)] → W p l ev (pq_R 0 0 0 0) s m args below meth cd H locs 0 0 Q (F0 m 9 ls []) := by
    intro n
    induction n with
    | zero => intro kk r h1; exact absurd h1 (Nat.not_lt_zero _)
    | succ n ihLP =>
      intro kk r hmeas h2 h3 hrr H locs ls hP hD hS hl
      refine lv_iload_n hx hb dX3_lagging_9 rfl (lv_at hl 0 rfl) ?_
      refine lv_sipush (v := 128) hx hb dX3_lagging_10 (by decide) ?_
      rcases Nat.lt_or_ge kk 128 with k_1 | k_1
      · refine lv_icmp_ge (tgt := 56) hx hb dX3_lagging_13 (by decide) (fun c9 => absurd c9 ((nI_ge (a := kk) (b := 128) k_1 (by omega)))) (fun _ => ?_)
        refine lv_iload_n hx hb dX3_lagging_16 rfl (lv_at hl 1 rfl) ?_
        have J2 : ∀ (H : Heap) (locs : List Loc) (ls : Array Slot), va_P D vwCl [(mo, .inr (3, [.int col, .ref z1, .ref z2, .ref z3, .ref z4, .ref z5, .ref z6, .ref z7, .ref z8, .ref z9, .int lf, .int B.2.2.2.2.1, .int B.2.2.2.2.2.1, .int B.2.2.2.2.2.2, .int laid, .int piled, .int prs, .int 0])), (z1, .inl (cI, 64, .inl hs)), (z2, .inl (cI, 64, .inl cs)), (z3, .inl (cI, 128, .inl fi)), (z4, .inl (cI, 128, .inl la)), (z5, .inl (cI, 128, .inl B.1)), (z6, .inl (cI, 128, .inl B.2.1)), (z7, .inl (cI, 128, .inl B.2.2.1)), (z8, .inl (cI, 128, .inl B.2.2.2.1)), (z9, .inl (cI, 64, .inl td))] H → va_D A [(mo, .inr (3, [.int col, .ref z1, .ref z2, .ref z3, .ref z4, .ref z5, .ref z6, .ref z7, .ref z8, .ref z9, .int lf, .int B.2.2.2.2.1, .int B.2.2.2.2.2.1, .int B.2.2.2.2.2.2, .int laid, .int piled, .int prs, .int 0])), (z1, .inl (cI, 64, .inl hs)), (z2, .inl (cI, 64, .inl cs)), (z3, .inl (cI, 128, .inl fi)), (z4, .inl (cI, 128, .inl la)), (z5, .inl (cI, 128, .inl B.1)), (z6, .inl (cI, 128, .inl B.2.1)), (z7, .inl (cI, 128, .inl B.2.2.1)), (z8, .inl (cI, 128, .inl B.2.2.2.1)), (z9, .inl (cI, 64, .inl td))] → va_S A s.heap H locs → lv_has ls 3 [(2, .int (nI kk)), (1, .int r), (0, .ref mo)] → W p l ev (pq_R 0 0 0 0) s m args below meth cd H locs 0 0 Q (F0 m 48 ls [.int (if ¬ fi kk < 0 ∧ bLag B kk then 1 else 0), .int r]) := by
          intro H locs ls hP hD hS hl
          refine lv_iadd hx hb dX3_lagging_48 ?_
          refine lv_istore_n (lv' := [(1, .int (r + (if ¬ fi kk < 0 ∧ bLag B kk then 1 else 0))), (2, .int (nI kk)), (0, .ref mo)]) hx hb dX3_lagging_49 rfl hl (by decide) rfl (fun ls hl => ?_)
          refine lv_iinc (v := nI (kk + 1)) (lv' := [(2, .int (nI (kk + 1))), (1, .int (r + (if ¬ fi kk < 0 ∧ bLag B kk then 1 else 0))), (0, .ref mo)]) hx hb dX3_lagging_50 hl (k := 1) rfl (nI_add _ 1) (by decide) rfl (fun ls hl => ?_)
          refine lv_goto (tgt := 9) hx hb dX3_lagging_53 (by decide) ?_
          exact ihLP (kk + 1) (r + (if ¬ fi kk < 0 ∧ bLag B kk then 1 else 0)) (by omega) (by omega) (by omega) (by rw [mLags_s _ _ h2, ← hrr]) H locs ls hP hD hS (lv_sub hl [0, 1, 2] rfl)
        refine lv_aload_n hx hb dX3_lagging_17 rfl (lv_at hl 2 rfl) ?_
        refine va_get (D := D) (ci := 3) (v := .ref z3) (C := RX3) (T := TX3) (N := 18) hx hb hts hin_X3 hown hK hP 0 rfl rfl 3 (by decide) hf_PressedPlainsModel_16 (fun _ h9 => h9) rfl dX3_lagging_18 ?_
        refine lv_iload_n hx hb dX3_lagging_21 rfl (lv_at hl 0 rfl) ?_
        refine pq_iald hx hb hK hP 3 0 rfl rfl kk (by omega) (by decide) dX3_lagging_22 ?_
        refine lv_if_lt (tgt := 47) hx hb dX3_lagging_23 (by decide) (fun c_3 => ?_) (fun c_3 => ?_)
        · refine lv_iconst (v := 0) hx hb dX3_lagging_47 (by decide) ?_
          refine pq_top (if ¬ fi kk < 0 ∧ bLag B kk then 1 else 0) ((if_neg (fun h => h.1 c_3)).symm) ?_
          exact J2 H locs ls hP hD hS hl
        · refine lv_aload_n hx hb dX3_lagging_26 rfl (lv_at hl 2 rfl) ?_
          refine va_get (D := D) (ci := 3) (v := .ref z5) (C := RX3) (T := TX3) (N := 18) hx hb hts hin_X3 hown hK hP 0 rfl rfl 5 (by decide) hf_PressedPlainsModel_22 (fun _ h9 => h9) rfl dX3_lagging_27 ?_
          refine lv_iload_n hx hb dX3_lagging_30 rfl (lv_at hl 0 rfl) ?_
          refine pq_iald hx hb hK hP 5 0 rfl rfl kk (by omega) (by decide) dX3_lagging_31 ?_
          refine lv_aload_n hx hb dX3_lagging_32 rfl (lv_at hl 2 rfl) ?_
          refine va_get (D := D) (ci := 3) (v := .ref z5) (C := RX3) (T := TX3) (N := 18) hx hb hts hin_X3 hown hK hP 0 rfl rfl 5 (by decide) hf_PressedPlainsModel_22 (fun _ h9 => h9) rfl dX3_lagging_33 ?_
          refine lv_iload_n hx hb dX3_lagging_36 rfl (lv_at hl 0 rfl) ?_
          refine lv_iconst (v := 2) hx hb dX3_lagging_37 (by decide) ?_
          refine lv_idiv hx hb dX3_lagging_38 (by decide) ?_
          refine pq_top (nI (kk / 2)) (pk_div (d := 2) (by omega) (by decide) (by decide)) ?_
          refine pq_iald hx hb hK hP 5 0 rfl rfl (kk / 2) (by omega) (by decide) dX3_lagging_39 ?_
          refine lv_icmp_le (tgt := 47) hx hb dX3_lagging_40 (by decide) (fun c_4 => ?_) (fun c_4 => ?_)
          · refine lv_iconst (v := 0) hx hb dX3_lagging_47 (by decide) ?_
            refine pq_top (if ¬ fi kk < 0 ∧ bLag B kk then 1 else 0) ((if_neg (fun h => h.2 c_4)).symm) ?_
            exact J2 H locs ls hP hD hS hl
          · refine lv_iconst (v := 1) hx hb dX3_lagging_43 (by decide) ?_
            refine lv_goto (tgt := 48) hx hb dX3_lagging_44 (by decide) ?_
            refine pq_top (if ¬ fi kk < 0 ∧ bLag B kk then 1 else 0) ((if_pos ⟨c_3, c_4⟩).symm) ?_
            exact J2 H locs ls hP hD hS hl
      · refine lv_icmp_ge (tgt := 56) hx hb dX3_lagging_13 (by decide) (fun _ => ?_) (fun c9 => absurd ((nI_le (a := 128) (b := kk) k_1 (by omega))) c9)
        refine lv_iload_n hx hb dX3_lagging_56 rfl (lv_at hl 1 rfl) ?_
        exact pq_iret hQ hx hb hr hlocks hK hS hP hD dX3_lagging_57 (by omega) (by omega) (⟨by rw [hrr, show kk - 2 = 126 by omega], rfl⟩)
  exact LP _ 2 0 (Nat.lt_succ_self _) (by decide) (by decide) rfl H locs ls hP hD hS (lv_sub hl [0, 1, 2] rfl)
