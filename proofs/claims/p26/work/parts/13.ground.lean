set_option maxHeartbeats 4000000 in
set_option maxRecDepth 100000 in
theorem mX1_renew (l : Launch) (D : va_G) (cI : ClassId) (g b0 b1 : Nat) (G : GK) (n0 v0 : Int32) : pq_M l yX1_renew wsX1_renew 0 0 0 0 D [(cI, .int)] pq_0 (grW g b0 b1 cI G) [.ref g, .int n0, .int v0] (fun v w1 => v = none ∧ w1 = grW g b0 b1 cI (gFillH n0 v0 G.1 64, gFillC G.2.1 64, n0, n0 * v0)) := by
  refine pq_enter (cc := cX1_renew) (maxL := 4) (ret := none) (by decide) rfl (Nat.le_of_ble_eq_true rfl) ?_
  intro p ev s m args below meth cd A ls Q H locs hx hb hr hml hts hown hlocks hnm hK hP hD hS hA hE hl hQ
  have hl : lv_has ls 4 [(0, .ref g), (1, .int n0), (2, .int v0)] := hl
  have hP : va_P D vwCl [(g, .inr (1, [.ref b0, .ref b1, .int G.2.2.1, .int G.2.2.2])), (b0, .inl (cI, 64, .inl G.1)), (b1, .inl (cI, 64, .inl G.2.1))] H := hP
  have hD : va_D A [(g, .inr (1, [.ref b0, .ref b1, .int G.2.2.1, .int G.2.2.2])), (b0, .inl (cI, 64, .inl G.1)), (b1, .inl (cI, 64, .inl G.2.1))] := hD
  have hin_X1 : ∀ w ∈ wsX10, w ∈ wsX1_renew := by decide +kernel
  have hf_PressedPlains_Ground_18 := hts (.fieldLink RX1 18 "PressedPlains$Ground" "count" "I") (by decide +kernel)
  have hf_PressedPlains_Ground_22 := hts (.fieldLink RX1 22 "PressedPlains$Ground" "given" "I") (by decide +kernel)
  have hf_PressedPlains_Ground_9 := hts (.fieldLink RX1 9 "PressedPlains$Ground" "heights" "[I") (by decide +kernel)
  have hf_PressedPlains_Ground_15 := hts (.fieldLink RX1 15 "PressedPlains$Ground" "ceilings" "[I") (by decide +kernel)
  refine lv_aload_n hx hb dX1_renew_0 rfl (lv_at hl 0 rfl) ?_
  refine lv_iload_n hx hb dX1_renew_1 rfl (lv_at hl 1 rfl) ?_
  refine va_put (D := D) (ci := 1) (v := .int n0) (ty := .int) (C := RX1) (T := TX1) (N := 4) hx hb hts hin_X1 tyX1 tyX1_ok nmX1 hown hK hP hD hS 0 rfl rfl 2 (by decide) hf_PressedPlains_Ground_18 (fun _ h9 => h9) rfl (by decide +kernel) rfl rfl (Nat.le_of_ble_eq_true rfl) dX1_renew_2 (fun H locs hP hD hS => ?_)
  have hP : va_P D vwCl [(g, .inr (1, [.ref b0, .ref b1, .int n0, .int G.2.2.2])), (b0, .inl (cI, 64, .inl G.1)), (b1, .inl (cI, 64, .inl G.2.1))] H := hP
  have hD : va_D A [(g, .inr (1, [.ref b0, .ref b1, .int n0, .int G.2.2.2])), (b0, .inl (cI, 64, .inl G.1)), (b1, .inl (cI, 64, .inl G.2.1))] := hD
  refine lv_aload_n hx hb dX1_renew_5 rfl (lv_at hl 0 rfl) ?_
  refine lv_iload_n hx hb dX1_renew_6 rfl (lv_at hl 1 rfl) ?_
  refine lv_iload_n hx hb dX1_renew_7 rfl (lv_at hl 2 rfl) ?_
  refine lv_imul hx hb dX1_renew_8 ?_
  refine va_put (D := D) (ci := 1) (v := .int (n0 * v0)) (ty := .int) (C := RX1) (T := TX1) (N := 4) hx hb hts hin_X1 tyX1 tyX1_ok nmX1 hown hK hP hD hS 0 rfl rfl 3 (by decide) hf_PressedPlains_Ground_22 (fun _ h9 => h9) rfl (by decide +kernel) rfl rfl (Nat.le_of_ble_eq_true rfl) dX1_renew_9 (fun H locs hP hD hS => ?_)
  have hP : va_P D vwCl [(g, .inr (1, [.ref b0, .ref b1, .int n0, .int (n0 * v0)])), (b0, .inl (cI, 64, .inl G.1)), (b1, .inl (cI, 64, .inl G.2.1))] H := hP
  have hD : va_D A [(g, .inr (1, [.ref b0, .ref b1, .int n0, .int (n0 * v0)])), (b0, .inl (cI, 64, .inl G.1)), (b1, .inl (cI, 64, .inl G.2.1))] := hD
  refine lv_iconst (v := 0) hx hb dX1_renew_12 (by decide) ?_
  refine lv_istore_n (lv' := [(3, .int 0), (0, .ref g), (1, .int n0), (2, .int v0)]) hx hb dX1_renew_13 rfl hl (by decide) rfl (fun ls hl => ?_)
  have LP : ∀ (n : Nat) (kk : Nat) (X Y : Nat → Int32), 64 - kk < n → kk ≤ 64 → X = gFillH n0 v0 G.1 kk → Y = gFillC G.2.1 kk → ∀ (H : Heap) (locs : List Loc) (ls : Array Slot), va_P D vwCl [(g, .inr (1, [.ref b0, .ref b1, .int n0, .int (n0 * v0)])), (b0, .inl (cI, 64, .inl X)), (b1, .inl (cI, 64, .inl Y))] H → va_D A [(g, .inr (1, [.ref b0, .ref b1, .int n0, .int (n0 * v0)])), (b0, .inl (cI, 64, .inl X)), (b1, .inl (cI, 64, .inl Y))] → va_S A s.heap H locs → lv_has ls 4 [(3, .int (nI kk)), (0, .ref g), (1, .int n0), (2, .int v0)] → W p l ev (pq_R 0 0 0 0) s m args below meth cd H locs 0 0 Q (F0 m 14 ls []) := by
    intro n
    induction n with
    | zero => intro kk X Y h1; exact absurd h1 (Nat.not_lt_zero _)
    | succ n ihLP =>
      intro kk X Y hmeas h3 hX hY H locs ls hP hD hS hl
      refine lv_iload_n hx hb dX1_renew_14 rfl (lv_at hl 0 rfl) ?_
      refine lv_bipush (v := 64) hx hb dX1_renew_15 (by decide) ?_
      rcases Nat.lt_or_ge kk 64 with k_1 | k_1
      · refine lv_icmp_ge (tgt := 49) hx hb dX1_renew_17 (by decide) (fun c9 => absurd c9 ((nI_ge (a := kk) (b := 64) k_1 (by omega)))) (fun _ => ?_)
        refine lv_aload_n hx hb dX1_renew_20 rfl (lv_at hl 1 rfl) ?_
        refine va_get (D := D) (ci := 1) (v := .ref b0) (C := RX1) (T := TX1) (N := 4) hx hb hts hin_X1 hown hK hP 0 rfl rfl 0 (by decide) hf_PressedPlains_Ground_9 (fun _ h9 => h9) rfl dX1_renew_21 ?_
        refine lv_iload_n hx hb dX1_renew_24 rfl (lv_at hl 0 rfl) ?_
        refine lv_iload_n hx hb dX1_renew_25 rfl (lv_at hl 0 rfl) ?_
        refine lv_iload_n hx hb dX1_renew_26 rfl (lv_at hl 2 rfl) ?_
        refine lv_icmp_ge (tgt := 34) hx hb dX1_renew_27 (by decide) (fun c_2 => ?_) (fun c_2 => ?_)
        · refine lv_iconst (v := 0) hx hb dX1_renew_34 (by decide) ?_
          refine pq_iast hx hb hK hP hD hS 1 0 rfl rfl kk (by omega) (by decide) dX1_renew_35 (fun H locs hP hD hS => ?_)
          have hP : va_P D vwCl [(g, .inr (1, [.ref b0, .ref b1, .int n0, .int (n0 * v0)])), (b0, .inl (cI, 64, .inl (upd X kk 0))), (b1, .inl (cI, 64, .inl Y))] H := hP
          have hD : va_D A [(g, .inr (1, [.ref b0, .ref b1, .int n0, .int (n0 * v0)])), (b0, .inl (cI, 64, .inl (upd X kk 0))), (b1, .inl (cI, 64, .inl Y))] := hD
          refine lv_aload_n hx hb dX1_renew_36 rfl (lv_at hl 1 rfl) ?_
          refine va_get (D := D) (ci := 1) (v := .ref b1) (C := RX1) (T := TX1) (N := 4) hx hb hts hin_X1 hown hK hP 0 rfl rfl 1 (by decide) hf_PressedPlains_Ground_15 (fun _ h9 => h9) rfl dX1_renew_37 ?_
          refine lv_iload_n hx hb dX1_renew_40 rfl (lv_at hl 0 rfl) ?_
          refine lv_iconst (v := (-1)) hx hb dX1_renew_41 (by decide) ?_
          refine pq_iast hx hb hK hP hD hS 2 0 rfl rfl kk (by omega) (by decide) dX1_renew_42 (fun H locs hP hD hS => ?_)
          have hP : va_P D vwCl [(g, .inr (1, [.ref b0, .ref b1, .int n0, .int (n0 * v0)])), (b0, .inl (cI, 64, .inl (upd X kk 0))), (b1, .inl (cI, 64, .inl (upd Y kk (-1))))] H := hP
          have hD : va_D A [(g, .inr (1, [.ref b0, .ref b1, .int n0, .int (n0 * v0)])), (b0, .inl (cI, 64, .inl (upd X kk 0))), (b1, .inl (cI, 64, .inl (upd Y kk (-1))))] := hD
          refine lv_iinc (v := nI (kk + 1)) (lv' := [(3, .int (nI (kk + 1))), (0, .ref g), (1, .int n0), (2, .int v0)]) hx hb dX1_renew_43 hl (k := 0) rfl (nI_add _ 1) (by decide) rfl (fun ls hl => ?_)
          refine lv_goto (tgt := 14) hx hb dX1_renew_46 (by decide) ?_
          exact ihLP (kk + 1) (upd X kk 0) (upd Y kk (-1)) (by omega) (by omega) (by rw [gFillH, if_pos c_2, ← hX]) (by rw [gFillC, ← hY]) H locs ls hP hD hS (lv_sub hl [0, 1, 2, 3] rfl)
        · refine lv_iload_n hx hb dX1_renew_30 rfl (lv_at hl 3 rfl) ?_
          refine lv_goto (tgt := 35) hx hb dX1_renew_31 (by decide) ?_
          refine pq_iast hx hb hK hP hD hS 1 0 rfl rfl kk (by omega) (by decide) dX1_renew_35 (fun H locs hP hD hS => ?_)
          have hP : va_P D vwCl [(g, .inr (1, [.ref b0, .ref b1, .int n0, .int (n0 * v0)])), (b0, .inl (cI, 64, .inl (upd X kk v0))), (b1, .inl (cI, 64, .inl Y))] H := hP
          have hD : va_D A [(g, .inr (1, [.ref b0, .ref b1, .int n0, .int (n0 * v0)])), (b0, .inl (cI, 64, .inl (upd X kk v0))), (b1, .inl (cI, 64, .inl Y))] := hD
          refine lv_aload_n hx hb dX1_renew_36 rfl (lv_at hl 1 rfl) ?_
          refine va_get (D := D) (ci := 1) (v := .ref b1) (C := RX1) (T := TX1) (N := 4) hx hb hts hin_X1 hown hK hP 0 rfl rfl 1 (by decide) hf_PressedPlains_Ground_15 (fun _ h9 => h9) rfl dX1_renew_37 ?_
          refine lv_iload_n hx hb dX1_renew_40 rfl (lv_at hl 0 rfl) ?_
          refine lv_iconst (v := (-1)) hx hb dX1_renew_41 (by decide) ?_
          refine pq_iast hx hb hK hP hD hS 2 0 rfl rfl kk (by omega) (by decide) dX1_renew_42 (fun H locs hP hD hS => ?_)
          have hP : va_P D vwCl [(g, .inr (1, [.ref b0, .ref b1, .int n0, .int (n0 * v0)])), (b0, .inl (cI, 64, .inl (upd X kk v0))), (b1, .inl (cI, 64, .inl (upd Y kk (-1))))] H := hP
          have hD : va_D A [(g, .inr (1, [.ref b0, .ref b1, .int n0, .int (n0 * v0)])), (b0, .inl (cI, 64, .inl (upd X kk v0))), (b1, .inl (cI, 64, .inl (upd Y kk (-1))))] := hD
          refine lv_iinc (v := nI (kk + 1)) (lv' := [(3, .int (nI (kk + 1))), (0, .ref g), (1, .int n0), (2, .int v0)]) hx hb dX1_renew_43 hl (k := 0) rfl (nI_add _ 1) (by decide) rfl (fun ls hl => ?_)
          refine lv_goto (tgt := 14) hx hb dX1_renew_46 (by decide) ?_
          exact ihLP (kk + 1) (upd X kk v0) (upd Y kk (-1)) (by omega) (by omega) (by rw [gFillH, if_neg c_2, ← hX]) (by rw [gFillC, ← hY]) H locs ls hP hD hS (lv_sub hl [0, 1, 2, 3] rfl)
      · refine lv_icmp_ge (tgt := 49) hx hb dX1_renew_17 (by decide) (fun _ => ?_) (fun c9 => absurd ((nI_le (a := 64) (b := kk) k_1 (by omega))) c9)
        exact pq_vret hQ hx hb hr hlocks hK hS hP hD dX1_renew_49 (by omega) (by omega) (⟨rfl, by rw [hX, hY, show kk = 64 by omega] <;> rfl⟩)
  exact LP _ 0 G.1 G.2.1 (Nat.lt_succ_self _) (by decide) rfl rfl H locs ls hP hD hS (lv_sub hl [0, 1, 2, 3] rfl)

set_option maxHeartbeats 4000000 in
set_option maxRecDepth 100000 in
theorem mX1_raise (l : Launch) (D : va_G) (cI : ClassId) (g b0 b1 : Nat) (G : GK) (kc : Nat) (w0 : Int32) (hkc : kc < 64) : pq_M l yX1_raise wsX1_raise 0 0 0 0 D [(cI, .int)] pq_0 (grW g b0 b1 cI G) [.ref g, .int (nI kc), .int w0] (fun v w1 => v = none ∧ w1 = grW g b0 b1 cI (upd G.1 kc (G.1 kc + w0), upd G.2.1 kc (-1), G.2.2.1, G.2.2.2 + w0)) := by
  refine pq_enter (cc := cX1_raise) (maxL := 3) (ret := none) (by decide) rfl (Nat.le_of_ble_eq_true rfl) ?_
  intro p ev s m args below meth cd A ls Q H locs hx hb hr hml hts hown hlocks hnm hK hP hD hS hA hE hl hQ
  have hl : lv_has ls 3 [(0, .ref g), (1, .int (nI kc)), (2, .int w0)] := hl
  have hP : va_P D vwCl [(g, .inr (1, [.ref b0, .ref b1, .int G.2.2.1, .int G.2.2.2])), (b0, .inl (cI, 64, .inl G.1)), (b1, .inl (cI, 64, .inl G.2.1))] H := hP
  have hD : va_D A [(g, .inr (1, [.ref b0, .ref b1, .int G.2.2.1, .int G.2.2.2])), (b0, .inl (cI, 64, .inl G.1)), (b1, .inl (cI, 64, .inl G.2.1))] := hD
  have hin_X1 : ∀ w ∈ wsX10, w ∈ wsX1_raise := by decide +kernel
  have hf_PressedPlains_Ground_9 := hts (.fieldLink RX1 9 "PressedPlains$Ground" "heights" "[I") (by decide +kernel)
  have hf_PressedPlains_Ground_15 := hts (.fieldLink RX1 15 "PressedPlains$Ground" "ceilings" "[I") (by decide +kernel)
  have hf_PressedPlains_Ground_22 := hts (.fieldLink RX1 22 "PressedPlains$Ground" "given" "I") (by decide +kernel)
  refine lv_aload_n hx hb dX1_raise_0 rfl (lv_at hl 0 rfl) ?_
  refine va_get (D := D) (ci := 1) (v := .ref b0) (C := RX1) (T := TX1) (N := 4) hx hb hts hin_X1 hown hK hP 0 rfl rfl 0 (by decide) hf_PressedPlains_Ground_9 (fun _ h9 => h9) rfl dX1_raise_1 ?_
  refine lv_iload_n hx hb dX1_raise_4 rfl (lv_at hl 1 rfl) ?_
  refine lv_dup2_11 hx hb dX1_raise_5 rfl rfl ?_
  refine pq_iald hx hb hK hP 1 0 rfl rfl kc (by omega) (by decide) dX1_raise_6 ?_
  refine lv_iload_n hx hb dX1_raise_7 rfl (lv_at hl 2 rfl) ?_
  refine lv_iadd hx hb dX1_raise_8 ?_
  refine pq_iast hx hb hK hP hD hS 1 0 rfl rfl kc (by omega) (by decide) dX1_raise_9 (fun H locs hP hD hS => ?_)
  have hP : va_P D vwCl [(g, .inr (1, [.ref b0, .ref b1, .int G.2.2.1, .int G.2.2.2])), (b0, .inl (cI, 64, .inl (upd G.1 kc ((G.1 kc) + w0)))), (b1, .inl (cI, 64, .inl G.2.1))] H := hP
  have hD : va_D A [(g, .inr (1, [.ref b0, .ref b1, .int G.2.2.1, .int G.2.2.2])), (b0, .inl (cI, 64, .inl (upd G.1 kc ((G.1 kc) + w0)))), (b1, .inl (cI, 64, .inl G.2.1))] := hD
  refine lv_aload_n hx hb dX1_raise_10 rfl (lv_at hl 0 rfl) ?_
  refine va_get (D := D) (ci := 1) (v := .ref b1) (C := RX1) (T := TX1) (N := 4) hx hb hts hin_X1 hown hK hP 0 rfl rfl 1 (by decide) hf_PressedPlains_Ground_15 (fun _ h9 => h9) rfl dX1_raise_11 ?_
  refine lv_iload_n hx hb dX1_raise_14 rfl (lv_at hl 1 rfl) ?_
  refine lv_iconst (v := (-1)) hx hb dX1_raise_15 (by decide) ?_
  refine pq_iast hx hb hK hP hD hS 2 0 rfl rfl kc (by omega) (by decide) dX1_raise_16 (fun H locs hP hD hS => ?_)
  have hP : va_P D vwCl [(g, .inr (1, [.ref b0, .ref b1, .int G.2.2.1, .int G.2.2.2])), (b0, .inl (cI, 64, .inl (upd G.1 kc ((G.1 kc) + w0)))), (b1, .inl (cI, 64, .inl (upd G.2.1 kc (-1))))] H := hP
  have hD : va_D A [(g, .inr (1, [.ref b0, .ref b1, .int G.2.2.1, .int G.2.2.2])), (b0, .inl (cI, 64, .inl (upd G.1 kc ((G.1 kc) + w0)))), (b1, .inl (cI, 64, .inl (upd G.2.1 kc (-1))))] := hD
  refine lv_aload_n hx hb dX1_raise_17 rfl (lv_at hl 0 rfl) ?_
  refine lv_dup hx hb dX1_raise_18 rfl ?_
  refine va_get (D := D) (ci := 1) (v := .int G.2.2.2) (C := RX1) (T := TX1) (N := 4) hx hb hts hin_X1 hown hK hP 0 rfl rfl 3 (by decide) hf_PressedPlains_Ground_22 (fun _ h9 => h9) rfl dX1_raise_19 ?_
  refine lv_iload_n hx hb dX1_raise_22 rfl (lv_at hl 2 rfl) ?_
  refine lv_iadd hx hb dX1_raise_23 ?_
  refine va_put (D := D) (ci := 1) (v := .int (G.2.2.2 + w0)) (ty := .int) (C := RX1) (T := TX1) (N := 4) hx hb hts hin_X1 tyX1 tyX1_ok nmX1 hown hK hP hD hS 0 rfl rfl 3 (by decide) hf_PressedPlains_Ground_22 (fun _ h9 => h9) rfl (by decide +kernel) rfl rfl (Nat.le_of_ble_eq_true rfl) dX1_raise_24 (fun H locs hP hD hS => ?_)
  have hP : va_P D vwCl [(g, .inr (1, [.ref b0, .ref b1, .int G.2.2.1, .int (G.2.2.2 + w0)])), (b0, .inl (cI, 64, .inl (upd G.1 kc ((G.1 kc) + w0)))), (b1, .inl (cI, 64, .inl (upd G.2.1 kc (-1))))] H := hP
  have hD : va_D A [(g, .inr (1, [.ref b0, .ref b1, .int G.2.2.1, .int (G.2.2.2 + w0)])), (b0, .inl (cI, 64, .inl (upd G.1 kc ((G.1 kc) + w0)))), (b1, .inl (cI, 64, .inl (upd G.2.1 kc (-1))))] := hD
  exact pq_vret hQ hx hb hr hlocks hK hS hP hD dX1_raise_27 (by omega) (by omega) (⟨rfl, rfl⟩)

set_option maxHeartbeats 4000000 in
set_option maxRecDepth 100000 in
theorem mX1_press (l : Launch) (D : va_G) (cI : ClassId) (g b0 b1 : Nat) (G : GK) (kf kt : Nat) (c0 : Int32) (hft : kf ≤ kt + 1) (ht : kt < 64) : pq_M l yX1_press wsX1_press 1 30 0 0 D [(cI, .int)] pq_0 (grW g b0 b1 cI G) [.ref g, .int (nI kf), .int (nI kt), .int c0] (fun v w1 => v = none ∧ w1 = grW g b0 b1 cI (gPressH c0 kf G.1 (kt + 1 - kf), gPressC c0 kf G.2.1 (kt + 1 - kf), G.2.2)) := by
  refine pq_enter (cc := cX1_press) (maxL := 5) (ret := none) (by decide) rfl (Nat.le_of_ble_eq_true rfl) ?_
  intro p ev s m args below meth cd A ls Q H locs hx hb hr hml hts hown hlocks hnm hK hP hD hS hA hE hl hQ
  have hl : lv_has ls 5 [(0, .ref g), (1, .int (nI kf)), (2, .int (nI kt)), (3, .int c0)] := hl
  have hP : va_P D vwCl [(g, .inr (1, [.ref b0, .ref b1, .int G.2.2.1, .int G.2.2.2])), (b0, .inl (cI, 64, .inl G.1)), (b1, .inl (cI, 64, .inl G.2.1))] H := hP
  have hD : va_D A [(g, .inr (1, [.ref b0, .ref b1, .int G.2.2.1, .int G.2.2.2])), (b0, .inl (cI, 64, .inl G.1)), (b1, .inl (cI, 64, .inl G.2.1))] := hD
  have hin_X1 : ∀ w ∈ wsX10, w ∈ wsX1_press := by decide +kernel
  have hf_PressedPlains_Ground_9 := hts (.fieldLink RX1 9 "PressedPlains$Ground" "heights" "[I") (by decide +kernel)
  have hm1_min25 := hts (.methodLink RX1 25 Lib.Math.min.name) (by decide +kernel)
  have hm2_min := hts (.static Lib.Math.min.name) (by decide +kernel)
  have hm3 := hts (.initialized "java/lang/Math") (by decide +kernel)
  have hm4_min := hts (.code Lib.Math.min.name Lib.Math.min.code 2 (some .int)) (by decide +kernel)
  have hf_PressedPlains_Ground_15 := hts (.fieldLink RX1 15 "PressedPlains$Ground" "ceilings" "[I") (by decide +kernel)
  refine lv_iload_n hx hb dX1_press_0 rfl (lv_at hl 1 rfl) ?_
  refine lv_istore (lv' := [(4, .int (nI kf)), (0, .ref g), (1, .int (nI kf)), (2, .int (nI kt)), (3, .int c0)]) hx hb dX1_press_1 hl (by decide) rfl (fun ls hl => ?_)
  have LP : ∀ (n : Nat) (kk : Nat) (X Y : Nat → Int32), kt + 1 - kk < n → kf ≤ kk → kk ≤ kt + 1 → X = gPressH c0 kf G.1 (kk - kf) → Y = gPressC c0 kf G.2.1 (kk - kf) → ∀ (H : Heap) (locs : List Loc) (ls : Array Slot), va_P D vwCl [(g, .inr (1, [.ref b0, .ref b1, .int G.2.2.1, .int G.2.2.2])), (b0, .inl (cI, 64, .inl X)), (b1, .inl (cI, 64, .inl Y))] H → va_D A [(g, .inr (1, [.ref b0, .ref b1, .int G.2.2.1, .int G.2.2.2])), (b0, .inl (cI, 64, .inl X)), (b1, .inl (cI, 64, .inl Y))] → va_S A s.heap H locs → lv_has ls 5 [(4, .int (nI kk)), (0, .ref g), (1, .int (nI kf)), (2, .int (nI kt)), (3, .int c0)] → W p l ev (pq_R 1 30 0 0) s m args below meth cd H locs 0 0 Q (F0 m 3 ls []) := by
    intro n
    induction n with
    | zero => intro kk X Y h1; exact absurd h1 (Nat.not_lt_zero _)
    | succ n ihLP =>
      intro kk X Y hmeas h2 h3 hX hY H locs ls hP hD hS hl
      refine lv_iload hx hb dX1_press_3 (lv_at hl 0 rfl) ?_
      refine lv_iload_n hx hb dX1_press_5 rfl (lv_at hl 3 rfl) ?_
      rcases Nat.lt_or_ge kt kk with k_1 | k_1
      · refine lv_icmp_gt (tgt := 63) hx hb dX1_press_6 (by decide) (fun _ => ?_) (fun c9 => absurd ((nI_lt (a := kt) (b := kk) k_1 (by omega))) c9)
        exact pq_vret hQ hx hb hr hlocks hK hS hP hD dX1_press_63 (by omega) (by omega) (⟨rfl, by rw [hX, hY, show kk = kt + 1 by omega] <;> rfl⟩)
      · refine lv_icmp_gt (tgt := 63) hx hb dX1_press_6 (by decide) (fun c9 => absurd c9 ((nI_nlt (a := kt) (b := kk) k_1 (by omega)))) (fun _ => ?_)
        refine lv_aload_n hx hb dX1_press_9 rfl (lv_at hl 1 rfl) ?_
        refine va_get (D := D) (ci := 1) (v := .ref b0) (C := RX1) (T := TX1) (N := 4) hx hb hts hin_X1 hown hK hP 0 rfl rfl 0 (by decide) hf_PressedPlains_Ground_9 (fun _ h9 => h9) rfl dX1_press_10 ?_
        refine lv_iload hx hb dX1_press_13 (lv_at hl 0 rfl) ?_
        refine lv_aload_n hx hb dX1_press_15 rfl (lv_at hl 1 rfl) ?_
        refine va_get (D := D) (ci := 1) (v := .ref b0) (C := RX1) (T := TX1) (N := 4) hx hb hts hin_X1 hown hK hP 0 rfl rfl 0 (by decide) hf_PressedPlains_Ground_9 (fun _ h9 => h9) rfl dX1_press_16 ?_
        refine lv_iload hx hb dX1_press_19 (lv_at hl 0 rfl) ?_
        refine pq_iald hx hb hK hP 1 0 rfl rfl kk (by omega) (by decide) dX1_press_21 ?_
        refine lv_iload_n hx hb dX1_press_22 rfl (lv_at hl 4 rfl) ?_
        refine va_mmin hx hb (hml.trans hl.1.symm) hown hm1_min25 hm2_min hm3 hm4_min (by first | exact Nat.le_of_ble_eq_true rfl | (dsimp only [pq_R]; omega)) (by first | exact Nat.le_of_ble_eq_true rfl | (simp only [List.map_nil, List.map_cons, List.sum_nil, List.sum_cons, pq_R, Value.category]; omega)) (Nat.le_of_ble_eq_true rfl) (Nat.le_of_ble_eq_true rfl) dX1_press_23 ?_
        refine pq_top (bMin (X kk) c0) rfl ?_
        refine pq_iast hx hb hK hP hD hS 1 0 rfl rfl kk (by omega) (by decide) dX1_press_26 (fun H locs hP hD hS => ?_)
        have hP : va_P D vwCl [(g, .inr (1, [.ref b0, .ref b1, .int G.2.2.1, .int G.2.2.2])), (b0, .inl (cI, 64, .inl (upd X kk (bMin (X kk) c0)))), (b1, .inl (cI, 64, .inl Y))] H := hP
        have hD : va_D A [(g, .inr (1, [.ref b0, .ref b1, .int G.2.2.1, .int G.2.2.2])), (b0, .inl (cI, 64, .inl (upd X kk (bMin (X kk) c0)))), (b1, .inl (cI, 64, .inl Y))] := hD
        refine lv_aload_n hx hb dX1_press_27 rfl (lv_at hl 1 rfl) ?_
        refine va_get (D := D) (ci := 1) (v := .ref b1) (C := RX1) (T := TX1) (N := 4) hx hb hts hin_X1 hown hK hP 0 rfl rfl 1 (by decide) hf_PressedPlains_Ground_15 (fun _ h9 => h9) rfl dX1_press_28 ?_
        refine lv_iload hx hb dX1_press_31 (lv_at hl 0 rfl) ?_
        refine pq_iald hx hb hK hP 2 0 rfl rfl kk (by omega) (by decide) dX1_press_33 ?_
        refine lv_iconst (v := (-1)) hx hb dX1_press_34 (by decide) ?_
        refine lv_icmp_eq (tgt := 49) hx hb dX1_press_35 (by decide) (fun c_2 => ?_) (fun c_2 => ?_)
        · refine lv_aload_n hx hb dX1_press_49 rfl (lv_at hl 1 rfl) ?_
          refine va_get (D := D) (ci := 1) (v := .ref b1) (C := RX1) (T := TX1) (N := 4) hx hb hts hin_X1 hown hK hP 0 rfl rfl 1 (by decide) hf_PressedPlains_Ground_15 (fun _ h9 => h9) rfl dX1_press_50 ?_
          refine lv_iload hx hb dX1_press_53 (lv_at hl 0 rfl) ?_
          refine lv_iload_n hx hb dX1_press_55 rfl (lv_at hl 4 rfl) ?_
          refine pq_iast hx hb hK hP hD hS 2 0 rfl rfl kk (by omega) (by decide) dX1_press_56 (fun H locs hP hD hS => ?_)
          have hP : va_P D vwCl [(g, .inr (1, [.ref b0, .ref b1, .int G.2.2.1, .int G.2.2.2])), (b0, .inl (cI, 64, .inl (upd X kk (bMin (X kk) c0)))), (b1, .inl (cI, 64, .inl (upd Y kk c0)))] H := hP
          have hD : va_D A [(g, .inr (1, [.ref b0, .ref b1, .int G.2.2.1, .int G.2.2.2])), (b0, .inl (cI, 64, .inl (upd X kk (bMin (X kk) c0)))), (b1, .inl (cI, 64, .inl (upd Y kk c0)))] := hD
          refine lv_iinc (v := nI (kk + 1)) (lv' := [(4, .int (nI (kk + 1))), (0, .ref g), (1, .int (nI kf)), (2, .int (nI kt)), (3, .int c0)]) hx hb dX1_press_57 hl (k := 0) rfl (nI_add _ 1) (by decide) rfl (fun ls hl => ?_)
          refine lv_goto (tgt := 3) hx hb dX1_press_60 (by decide) ?_
          exact ihLP (kk + 1) (upd X kk (bMin (X kk) c0)) (upd Y kk c0) (by omega) (by omega) (by omega) (by rw [gPressH_s _ _ _ h2, ← hX]) (by rw [gPressC_s _ _ _ h2, ← hY, if_pos (Or.inl c_2)]) H locs ls hP hD hS (lv_sub hl [0, 1, 2, 3, 4] rfl)
        · refine lv_iload_n hx hb dX1_press_38 rfl (lv_at hl 4 rfl) ?_
          refine lv_aload_n hx hb dX1_press_39 rfl (lv_at hl 1 rfl) ?_
          refine va_get (D := D) (ci := 1) (v := .ref b1) (C := RX1) (T := TX1) (N := 4) hx hb hts hin_X1 hown hK hP 0 rfl rfl 1 (by decide) hf_PressedPlains_Ground_15 (fun _ h9 => h9) rfl dX1_press_40 ?_
          refine lv_iload hx hb dX1_press_43 (lv_at hl 0 rfl) ?_
          refine pq_iald hx hb hK hP 2 0 rfl rfl kk (by omega) (by decide) dX1_press_45 ?_
          refine lv_icmp_ge (tgt := 57) hx hb dX1_press_46 (by decide) (fun c_3 => ?_) (fun c_3 => ?_)
          · refine lv_iinc (v := nI (kk + 1)) (lv' := [(4, .int (nI (kk + 1))), (0, .ref g), (1, .int (nI kf)), (2, .int (nI kt)), (3, .int c0)]) hx hb dX1_press_57 hl (k := 0) rfl (nI_add _ 1) (by decide) rfl (fun ls hl => ?_)
            refine lv_goto (tgt := 3) hx hb dX1_press_60 (by decide) ?_
            exact ihLP (kk + 1) (upd X kk (bMin (X kk) c0)) Y (by omega) (by omega) (by omega) (by rw [gPressH_s _ _ _ h2, ← hX]) (by rw [gPressC_s _ _ _ h2, ← hY, if_neg (fun h => h.elim c_2 (i_nlt c_3))]) H locs ls hP hD hS (lv_sub hl [0, 1, 2, 3, 4] rfl)
          · refine lv_aload_n hx hb dX1_press_49 rfl (lv_at hl 1 rfl) ?_
            refine va_get (D := D) (ci := 1) (v := .ref b1) (C := RX1) (T := TX1) (N := 4) hx hb hts hin_X1 hown hK hP 0 rfl rfl 1 (by decide) hf_PressedPlains_Ground_15 (fun _ h9 => h9) rfl dX1_press_50 ?_
            refine lv_iload hx hb dX1_press_53 (lv_at hl 0 rfl) ?_
            refine lv_iload_n hx hb dX1_press_55 rfl (lv_at hl 4 rfl) ?_
            refine pq_iast hx hb hK hP hD hS 2 0 rfl rfl kk (by omega) (by decide) dX1_press_56 (fun H locs hP hD hS => ?_)
            have hP : va_P D vwCl [(g, .inr (1, [.ref b0, .ref b1, .int G.2.2.1, .int G.2.2.2])), (b0, .inl (cI, 64, .inl (upd X kk (bMin (X kk) c0)))), (b1, .inl (cI, 64, .inl (upd Y kk c0)))] H := hP
            have hD : va_D A [(g, .inr (1, [.ref b0, .ref b1, .int G.2.2.1, .int G.2.2.2])), (b0, .inl (cI, 64, .inl (upd X kk (bMin (X kk) c0)))), (b1, .inl (cI, 64, .inl (upd Y kk c0)))] := hD
            refine lv_iinc (v := nI (kk + 1)) (lv' := [(4, .int (nI (kk + 1))), (0, .ref g), (1, .int (nI kf)), (2, .int (nI kt)), (3, .int c0)]) hx hb dX1_press_57 hl (k := 0) rfl (nI_add _ 1) (by decide) rfl (fun ls hl => ?_)
            refine lv_goto (tgt := 3) hx hb dX1_press_60 (by decide) ?_
            exact ihLP (kk + 1) (upd X kk (bMin (X kk) c0)) (upd Y kk c0) (by omega) (by omega) (by omega) (by rw [gPressH_s _ _ _ h2, ← hX]) (by rw [gPressC_s _ _ _ h2, ← hY, if_pos (Or.inr (i_lt c_3))]) H locs ls hP hD hS (lv_sub hl [0, 1, 2, 3, 4] rfl)
  exact LP _ kf G.1 G.2.1 (Nat.lt_succ_self _) (Nat.le_refl _) (by omega) (by rw [Nat.sub_self] <;> rfl) (by rw [Nat.sub_self] <;> rfl) H locs ls hP hD hS (lv_sub hl [0, 1, 2, 3, 4] rfl)

set_option maxHeartbeats 4000000 in
set_option maxRecDepth 100000 in
theorem mX1_earthAbove (l : Launch) (D : va_G) (cI : ClassId) (g b0 b1 : Nat) (G : GK) (kf kt : Nat) (c0 : Int32) (hft : kf ≤ kt + 1) (ht : kt < 64) : pq_M l yX1_earthAbove wsX1_earthAbove 1 30 0 0 D [(cI, .int)] pq_0 (grW g b0 b1 cI G) [.ref g, .int (nI kf), .int (nI kt), .int c0] (fun v w1 => v = some (.int (gAbove G.1 kf (kt + 1 - kf) c0)) ∧ w1 = grW g b0 b1 cI G) := by
  refine pq_enter (cc := cX1_earthAbove) (maxL := 6) (ret := (some .int)) (by decide) rfl (Nat.le_of_ble_eq_true rfl) ?_
  intro p ev s m args below meth cd A ls Q H locs hx hb hr hml hts hown hlocks hnm hK hP hD hS hA hE hl hQ
  have hl : lv_has ls 6 [(0, .ref g), (1, .int (nI kf)), (2, .int (nI kt)), (3, .int c0)] := hl
  have hP : va_P D vwCl [(g, .inr (1, [.ref b0, .ref b1, .int G.2.2.1, .int G.2.2.2])), (b0, .inl (cI, 64, .inl G.1)), (b1, .inl (cI, 64, .inl G.2.1))] H := hP
  have hD : va_D A [(g, .inr (1, [.ref b0, .ref b1, .int G.2.2.1, .int G.2.2.2])), (b0, .inl (cI, 64, .inl G.1)), (b1, .inl (cI, 64, .inl G.2.1))] := hD
  have hin_X1 : ∀ w ∈ wsX10, w ∈ wsX1_earthAbove := by decide +kernel
  have hf_PressedPlains_Ground_9 := hts (.fieldLink RX1 9 "PressedPlains$Ground" "heights" "[I") (by decide +kernel)
  have hm1_max31 := hts (.methodLink RX1 31 Lib.Math.max.name) (by decide +kernel)
  have hm2_max := hts (.static Lib.Math.max.name) (by decide +kernel)
  have hm3 := hts (.initialized "java/lang/Math") (by decide +kernel)
  have hm4_max := hts (.code Lib.Math.max.name Lib.Math.max.code 2 (some .int)) (by decide +kernel)
  refine lv_iconst (v := 0) hx hb dX1_earthAbove_0 (by decide) ?_
  refine lv_istore (lv' := [(4, .int 0), (0, .ref g), (1, .int (nI kf)), (2, .int (nI kt)), (3, .int c0)]) hx hb dX1_earthAbove_1 hl (by decide) rfl (fun ls hl => ?_)
  refine lv_iload_n hx hb dX1_earthAbove_3 rfl (lv_at hl 2 rfl) ?_
  refine lv_istore (lv' := [(5, .int (nI kf)), (4, .int 0), (0, .ref g), (1, .int (nI kf)), (2, .int (nI kt)), (3, .int c0)]) hx hb dX1_earthAbove_4 hl (by decide) rfl (fun ls hl => ?_)
  have LP : ∀ (n : Nat) (kk : Nat) (r : Int32), kt + 1 - kk < n → kf ≤ kk → kk ≤ kt + 1 → r = gAbove G.1 kf (kk - kf) c0 → ∀ (H : Heap) (locs : List Loc) (ls : Array Slot), va_P D vwCl [(g, .inr (1, [.ref b0, .ref b1, .int G.2.2.1, .int G.2.2.2])), (b0, .inl (cI, 64, .inl G.1)), (b1, .inl (cI, 64, .inl G.2.1))] H → va_D A [(g, .inr (1, [.ref b0, .ref b1, .int G.2.2.1, .int G.2.2.2])), (b0, .inl (cI, 64, .inl G.1)), (b1, .inl (cI, 64, .inl G.2.1))] → va_S A s.heap H locs → lv_has ls 6 [(5, .int (nI kk)), (4, .int r), (0, .ref g), (1, .int (nI kf)), (2, .int (nI kt)), (3, .int c0)] → W p l ev (pq_R 1 30 0 0) s m args below meth cd H locs 0 0 Q (F0 m 6 ls []) := by
    intro n
    induction n with
    | zero => intro kk r h1; exact absurd h1 (Nat.not_lt_zero _)
    | succ n ihLP =>
      intro kk r hmeas h2 h3 hrr H locs ls hP hD hS hl
      refine lv_iload hx hb dX1_earthAbove_6 (lv_at hl 0 rfl) ?_
      refine lv_iload_n hx hb dX1_earthAbove_8 rfl (lv_at hl 4 rfl) ?_
      rcases Nat.lt_or_ge kt kk with k_1 | k_1
      · refine lv_icmp_gt (tgt := 36) hx hb dX1_earthAbove_9 (by decide) (fun _ => ?_) (fun c9 => absurd ((nI_lt (a := kt) (b := kk) k_1 (by omega))) c9)
        refine lv_iload hx hb dX1_earthAbove_36 (lv_at hl 1 rfl) ?_
        exact pq_iret hQ hx hb hr hlocks hK hS hP hD dX1_earthAbove_38 (by omega) (by omega) (⟨by rw [hrr, show kk = kt + 1 by omega], rfl⟩)
      · refine lv_icmp_gt (tgt := 36) hx hb dX1_earthAbove_9 (by decide) (fun c9 => absurd c9 ((nI_nlt (a := kt) (b := kk) k_1 (by omega)))) (fun _ => ?_)
        refine lv_iload hx hb dX1_earthAbove_12 (lv_at hl 1 rfl) ?_
        refine lv_aload_n hx hb dX1_earthAbove_14 rfl (lv_at hl 2 rfl) ?_
        refine va_get (D := D) (ci := 1) (v := .ref b0) (C := RX1) (T := TX1) (N := 4) hx hb hts hin_X1 hown hK hP 0 rfl rfl 0 (by decide) hf_PressedPlains_Ground_9 (fun _ h9 => h9) rfl dX1_earthAbove_15 ?_
        refine lv_iload hx hb dX1_earthAbove_18 (lv_at hl 0 rfl) ?_
        refine pq_iald hx hb hK hP 1 0 rfl rfl kk (by omega) (by decide) dX1_earthAbove_20 ?_
        refine lv_iload_n hx hb dX1_earthAbove_21 rfl (lv_at hl 5 rfl) ?_
        refine lv_isub hx hb dX1_earthAbove_22 ?_
        refine lv_iconst (v := 0) hx hb dX1_earthAbove_23 (by decide) ?_
        refine va_mmax hx hb (hml.trans hl.1.symm) hown hm1_max31 hm2_max hm3 hm4_max (by first | exact Nat.le_of_ble_eq_true rfl | (dsimp only [pq_R]; omega)) (by first | exact Nat.le_of_ble_eq_true rfl | (simp only [List.map_nil, List.map_cons, List.sum_nil, List.sum_cons, pq_R, Value.category]; omega)) (Nat.le_of_ble_eq_true rfl) (Nat.le_of_ble_eq_true rfl) dX1_earthAbove_24 ?_
        refine pq_top (bMax ((G.1 kk) - c0) 0) rfl ?_
        refine lv_iadd hx hb dX1_earthAbove_27 ?_
        refine lv_istore (lv' := [(4, .int (r + (bMax ((G.1 kk) - c0) 0))), (5, .int (nI kk)), (0, .ref g), (1, .int (nI kf)), (2, .int (nI kt)), (3, .int c0)]) hx hb dX1_earthAbove_28 hl (by decide) rfl (fun ls hl => ?_)
        refine lv_iinc (v := nI (kk + 1)) (lv' := [(5, .int (nI (kk + 1))), (4, .int (r + (bMax ((G.1 kk) - c0) 0))), (0, .ref g), (1, .int (nI kf)), (2, .int (nI kt)), (3, .int c0)]) hx hb dX1_earthAbove_30 hl (k := 1) rfl (nI_add _ 1) (by decide) rfl (fun ls hl => ?_)
        refine lv_goto (tgt := 6) hx hb dX1_earthAbove_33 (by decide) ?_
        exact ihLP (kk + 1) (r + (bMax ((G.1 kk) - c0) 0)) (by omega) (by omega) (by omega) (by rw [gAbove, gSum_s _ _ h2, ← gAbove, ← hrr]) H locs ls hP hD hS (lv_sub hl [0, 1, 2, 3, 4, 5] rfl)
  exact LP _ kf 0 (Nat.lt_succ_self _) (Nat.le_refl _) (by omega) (by rw [Nat.sub_self] <;> rfl) H locs ls hP hD hS (lv_sub hl [0, 1, 2, 3, 4, 5] rfl)

set_option maxHeartbeats 4000000 in
set_option maxRecDepth 100000 in
theorem mX1_highestCeilingFor (l : Launch) (D : va_G) (cI : ClassId) (g b0 b1 : Nat) (G : GK) (kf kt : Nat) (w0 : Int32) (hft : kf ≤ kt + 1) (ht : kt < 64) : pq_M l yX1_highestCeilingFor wsX1_highestCeilingFor 2 55 0 0 D [(cI, .int)] pq_0 (grW g b0 b1 cI G) [.ref g, .int (nI kf), .int (nI kt), .int w0] (fun v w1 => v = some (.int (if (gAbove G.1 kf (kt + 1 - kf)) 0 < w0 then -1 else gHi (gAbove G.1 kf (kt + 1 - kf)) w0 10 0)) ∧ w1 = grW g b0 b1 cI G) := by
  refine pq_enter (cc := cX1_highestCeilingFor) (maxL := 6) (ret := (some .int)) (by decide) rfl (Nat.le_of_ble_eq_true rfl) ?_
  intro p ev s m args below meth cd A ls Q H locs hx hb hr hml hts hown hlocks hnm hK hP hD hS hA hE hl hQ
  have hl : lv_has ls 6 [(0, .ref g), (1, .int (nI kf)), (2, .int (nI kt)), (3, .int w0)] := hl
  have hP : va_P D vwCl [(g, .inr (1, [.ref b0, .ref b1, .int G.2.2.1, .int G.2.2.2])), (b0, .inl (cI, 64, .inl G.1)), (b1, .inl (cI, 64, .inl G.2.1))] H := hP
  have hD : va_D A [(g, .inr (1, [.ref b0, .ref b1, .int G.2.2.1, .int G.2.2.2])), (b0, .inl (cI, 64, .inl G.1)), (b1, .inl (cI, 64, .inl G.2.1))] := hD
  refine lv_aload_n hx hb dX1_highestCeilingFor_0 rfl (lv_at hl 0 rfl) ?_
  refine lv_iload_n hx hb dX1_highestCeilingFor_1 rfl (lv_at hl 1 rfl) ?_
  refine lv_iload_n hx hb dX1_highestCeilingFor_2 rfl (lv_at hl 2 rfl) ?_
  refine lv_iconst (v := 0) hx hb dX1_highestCeilingFor_3 (by decide) ?_
  refine pq_callV (wr := []) (own := RX1) (nL := 6) (q0 := 0) (ci := 1) [0, 1, 2] [] [.int (nI kf), .int (nI kt), .int 0] (mX1_earthAbove l D cI g b0 b1 G kf kt 0 (by omega) (by omega)) ⟨hx, hb, hml, hown, hts⟩ (cwV 3 hts gX1_highestCeilingFor_X1_earthAbove rfl rfl rfl (by decide +kernel) ⟨by dsimp only [pq_R]; omega, by dsimp only [pq_R]; omega⟩) pq_bl0 (fun _ _ _ => trivial) hK hP hD hS hA rfl (by decide) rfl (by decide) (by decide) rfl rfl rfl rfl hl.1 rfl (Nat.le_of_ble_eq_true rfl) dX1_highestCeilingFor_4 ⟨by dsimp only [pq_R]; omega, by dsimp only [pq_R]; omega⟩ (fun v w1 H locs hq hP hD hS hz => ?_)
  obtain ⟨rfl, rfl⟩ := hq
  have hP : va_P D vwCl [(g, .inr (1, [.ref b0, .ref b1, .int G.2.2.1, .int G.2.2.2])), (b0, .inl (cI, 64, .inl G.1)), (b1, .inl (cI, 64, .inl G.2.1))] H := hP
  have hD : va_D A [(g, .inr (1, [.ref b0, .ref b1, .int G.2.2.1, .int G.2.2.2])), (b0, .inl (cI, 64, .inl G.1)), (b1, .inl (cI, 64, .inl G.2.1))] := hD
  refine W.eq (g2 := F0 m 7 ls [.int (gAbove G.1 kf (kt + 1 - kf) 0)]) rfl ?_
  refine lv_iload_n hx hb dX1_highestCeilingFor_7 rfl (lv_at hl 3 rfl) ?_
  refine lv_icmp_ge (tgt := 13) hx hb dX1_highestCeilingFor_8 (by decide) (fun c_1 => ?_) (fun c_1 => ?_)
  · refine lv_iconst (v := 0) hx hb dX1_highestCeilingFor_13 (by decide) ?_
    refine lv_istore (lv' := [(4, .int 0), (0, .ref g), (1, .int (nI kf)), (2, .int (nI kt)), (3, .int w0)]) hx hb dX1_highestCeilingFor_14 hl (by decide) rfl (fun ls hl => ?_)
    refine lv_sipush (v := 512) hx hb dX1_highestCeilingFor_16 (by decide) ?_
    refine lv_istore (lv' := [(5, .int 512), (4, .int 0), (0, .ref g), (1, .int (nI kf)), (2, .int (nI kt)), (3, .int w0)]) hx hb dX1_highestCeilingFor_19 hl (by decide) rfl (fun ls hl => ?_)
    have LP : ∀ (n : Nat) (j st : Nat) (r : Int32), j < n → st = 2 ^ j / 2 → st ≤ 512 → gHi (gAbove G.1 kf (kt + 1 - kf)) w0 j r = gHi (gAbove G.1 kf (kt + 1 - kf)) w0 10 0 → ∀ (H : Heap) (locs : List Loc) (ls : Array Slot), va_P D vwCl [(g, .inr (1, [.ref b0, .ref b1, .int G.2.2.1, .int G.2.2.2])), (b0, .inl (cI, 64, .inl G.1)), (b1, .inl (cI, 64, .inl G.2.1))] H → va_D A [(g, .inr (1, [.ref b0, .ref b1, .int G.2.2.1, .int G.2.2.2])), (b0, .inl (cI, 64, .inl G.1)), (b1, .inl (cI, 64, .inl G.2.1))] → va_S A s.heap H locs → lv_has ls 6 [(5, .int (nI st)), (4, .int r), (0, .ref g), (1, .int (nI kf)), (2, .int (nI kt)), (3, .int w0)] → W p l ev (pq_R 2 55 0 0) s m args below meth cd H locs 0 0 Q (F0 m 21 ls []) := by
      intro n
      induction n with
      | zero => intro j st r h1; exact absurd h1 (Nat.not_lt_zero _)
      | succ n ihLP =>
        intro j st r hmeas hst hs5 hrr H locs ls hP hD hS hl
        refine lv_iload hx hb dX1_highestCeilingFor_21 (lv_at hl 0 rfl) ?_
        rcases Nat.lt_or_ge 0 st with k_2 | k_2
        · refine lv_if_le (tgt := 57) hx hb dX1_highestCeilingFor_23 (by decide) (fun c9 => absurd c9 ((nI_ge (a := 0) (b := st) k_2 (by omega)))) (fun _ => ?_)
          refine lv_aload_n hx hb dX1_highestCeilingFor_26 rfl (lv_at hl 2 rfl) ?_
          refine lv_iload_n hx hb dX1_highestCeilingFor_27 rfl (lv_at hl 3 rfl) ?_
          refine lv_iload_n hx hb dX1_highestCeilingFor_28 rfl (lv_at hl 4 rfl) ?_
          refine lv_iload hx hb dX1_highestCeilingFor_29 (lv_at hl 1 rfl) ?_
          refine lv_iload hx hb dX1_highestCeilingFor_31 (lv_at hl 0 rfl) ?_
          refine lv_iadd hx hb dX1_highestCeilingFor_33 ?_
          refine pq_callV (wr := []) (own := RX1) (nL := 6) (q0 := 0) (ci := 1) [0, 1, 2] [] [.int (nI kf), .int (nI kt), .int (r + (nI st))] (mX1_earthAbove l D cI g b0 b1 G kf kt (r + (nI st)) (by omega) (by omega)) ⟨hx, hb, hml, hown, hts⟩ (cwV 3 hts gX1_highestCeilingFor_X1_earthAbove rfl rfl rfl (by decide +kernel) ⟨by dsimp only [pq_R]; omega, by dsimp only [pq_R]; omega⟩) pq_bl0 (fun _ _ _ => trivial) hK hP hD hS hA rfl (by decide) rfl (by decide) (by decide) rfl rfl rfl rfl hl.1 rfl (Nat.le_of_ble_eq_true rfl) dX1_highestCeilingFor_34 ⟨by dsimp only [pq_R]; omega, by dsimp only [pq_R]; omega⟩ (fun v w1 H locs hq hP hD hS hz => ?_)
          obtain ⟨rfl, rfl⟩ := hq
          have hP : va_P D vwCl [(g, .inr (1, [.ref b0, .ref b1, .int G.2.2.1, .int G.2.2.2])), (b0, .inl (cI, 64, .inl G.1)), (b1, .inl (cI, 64, .inl G.2.1))] H := hP
          have hD : va_D A [(g, .inr (1, [.ref b0, .ref b1, .int G.2.2.1, .int G.2.2.2])), (b0, .inl (cI, 64, .inl G.1)), (b1, .inl (cI, 64, .inl G.2.1))] := hD
          refine W.eq (g2 := F0 m 37 ls [.int (gAbove G.1 kf (kt + 1 - kf) (r + (nI st)))]) rfl ?_
          refine lv_iload_n hx hb dX1_highestCeilingFor_37 rfl (lv_at hl 5 rfl) ?_
          refine lv_icmp_lt (tgt := 48) hx hb dX1_highestCeilingFor_38 (by decide) (fun c_3 => ?_) (fun c_3 => ?_)
          · refine lv_iload hx hb dX1_highestCeilingFor_48 (lv_at hl 0 rfl) ?_
            refine lv_iconst (v := 2) hx hb dX1_highestCeilingFor_50 (by decide) ?_
            refine lv_idiv hx hb dX1_highestCeilingFor_51 (by decide) ?_
            refine pq_top (nI (st / 2)) (pk_div (d := 2) (by omega) (by decide) (by decide)) ?_
            refine lv_istore (lv' := [(5, .int (nI (st / 2))), (4, .int r), (0, .ref g), (1, .int (nI kf)), (2, .int (nI kt)), (3, .int w0)]) hx hb dX1_highestCeilingFor_52 hl (by decide) rfl (fun ls hl => ?_)
            refine lv_goto (tgt := 21) hx hb dX1_highestCeilingFor_54 (by decide) ?_
            exact ihLP (j - 1) (st / 2) r (by have := pw_j hst k_2; omega) (pw_h hst k_2) (by omega) (by rw [← hrr, gHi_s hst k_2 r, if_neg (i_nle c_3)]) H locs ls hP hD hS (lv_sub hl [0, 1, 2, 3, 4, 5] rfl)
          · refine lv_iload hx hb dX1_highestCeilingFor_41 (lv_at hl 1 rfl) ?_
            refine lv_iload hx hb dX1_highestCeilingFor_43 (lv_at hl 0 rfl) ?_
            refine lv_iadd hx hb dX1_highestCeilingFor_45 ?_
            refine lv_istore (lv' := [(4, .int (r + (nI st))), (5, .int (nI st)), (0, .ref g), (1, .int (nI kf)), (2, .int (nI kt)), (3, .int w0)]) hx hb dX1_highestCeilingFor_46 hl (by decide) rfl (fun ls hl => ?_)
            refine lv_iload hx hb dX1_highestCeilingFor_48 (lv_at hl 1 rfl) ?_
            refine lv_iconst (v := 2) hx hb dX1_highestCeilingFor_50 (by decide) ?_
            refine lv_idiv hx hb dX1_highestCeilingFor_51 (by decide) ?_
            refine pq_top (nI (st / 2)) (pk_div (d := 2) (by omega) (by decide) (by decide)) ?_
            refine lv_istore (lv' := [(5, .int (nI (st / 2))), (4, .int (r + (nI st))), (0, .ref g), (1, .int (nI kf)), (2, .int (nI kt)), (3, .int w0)]) hx hb dX1_highestCeilingFor_52 hl (by decide) rfl (fun ls hl => ?_)
            refine lv_goto (tgt := 21) hx hb dX1_highestCeilingFor_54 (by decide) ?_
            exact ihLP (j - 1) (st / 2) (r + (nI st)) (by have := pw_j hst k_2; omega) (pw_h hst k_2) (by omega) (by rw [← hrr, gHi_s hst k_2 r, if_pos (i_le c_3)]) H locs ls hP hD hS (lv_sub hl [0, 1, 2, 3, 4, 5] rfl)
        · refine lv_if_le (tgt := 57) hx hb dX1_highestCeilingFor_23 (by decide) (fun _ => ?_) (fun c9 => absurd ((nI_le (a := st) (b := 0) k_2 (by omega))) c9)
          refine lv_iload hx hb dX1_highestCeilingFor_57 (lv_at hl 1 rfl) ?_
          exact pq_iret hQ hx hb hr hlocks hK hS hP hD dX1_highestCeilingFor_59 (by omega) (by omega) (⟨by rw [if_neg (i_nlt c_1), ← hrr, show j = 0 from pw_z hst (by omega)] <;> rfl, rfl⟩)
    exact LP _ 10 512 0 (Nat.lt_succ_self _) (by decide) (by decide) rfl H locs ls hP hD hS (lv_sub hl [0, 1, 2, 3, 4, 5] rfl)
  · refine lv_iconst (v := (-1)) hx hb dX1_highestCeilingFor_11 (by decide) ?_
    exact pq_iret hQ hx hb hr hlocks hK hS hP hD dX1_highestCeilingFor_12 (by omega) (by omega) (⟨by rw [if_pos (i_lt c_1)], rfl⟩)
