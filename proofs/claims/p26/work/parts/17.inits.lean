set_option maxHeartbeats 4000000 in
set_option maxRecDepth 100000 in
theorem mX0_init (l : Launch) (D : va_G) (cI : ClassId) (h : Nat) : pq_M l yX0_init wsX0_init 1 30 6 768 D [(cI, .int)] pq_0 [(h, .inr (0, [.null, .null, .null, .null, .null, .null, .int 0, .int 0, .int 0]))] [.ref h] (fun v w1 => ∃ (a0 a1 a2 a3 a4 a5 : Nat), v = none ∧ w1 = bkW h a0 a1 a2 a3 a4 a5 cI (fun _ => 0) (fun _ => 0) ((fun _ => 0), (fun _ => 0), (fun _ => 0), (fun _ => 0), 0, 0, 0)) := by
  refine pq_enter (cc := cX0_init) (maxL := 1) (ret := none) (by decide) rfl (Nat.le_of_ble_eq_true rfl) ?_
  intro p ev s m args below meth cd A ls Q H locs hx hb hr hml hts hown hlocks hnm hK hP hD hS hA hE hl hQ
  have hl : lv_has ls 1 [(0, .ref h)] := hl
  have hP : va_P D vwCl [(h, .inr (0, [.null, .null, .null, .null, .null, .null, .int 0, .int 0, .int 0]))] H := hP
  have hD : va_D A [(h, .inr (0, [.null, .null, .null, .null, .null, .null, .int 0, .int 0, .int 0]))] := hD
  have hin : meth.name = "<init>" := hnm
  have hoi1 := hts (.methodLink RX0 3 objectInit) (by decide +kernel)
  have hoi2 := hts (.instanceMethod objectInit) (by decide +kernel)
  have hoi3 := hts (.code objectInit ⟨#[0xb1]⟩ 1 none) (by decide +kernel)
  have hin_X0 : ∀ w ∈ wsX00, w ∈ wsX0_init := by decide +kernel
  have hf_PressedPlains_Book_11 := hts (.fieldLink RX0 11 "PressedPlains$Book" "first" "[I") (by decide +kernel)
  have hf_PressedPlains_Book_15 := hts (.fieldLink RX0 15 "PressedPlains$Book" "last" "[I") (by decide +kernel)
  have hf_PressedPlains_Book_18 := hts (.fieldLink RX0 18 "PressedPlains$Book" "greatest" "[I") (by decide +kernel)
  have hf_PressedPlains_Book_21 := hts (.fieldLink RX0 21 "PressedPlains$Book" "second" "[I") (by decide +kernel)
  have hf_PressedPlains_Book_24 := hts (.fieldLink RX0 24 "PressedPlains$Book" "many" "[I") (by decide +kernel)
  have hf_PressedPlains_Book_27 := hts (.fieldLink RX0 27 "PressedPlains$Book" "sum" "[I") (by decide +kernel)
  refine lv_aload_n hx hb dX0_init_0 rfl (lv_at hl 0 rfl) ?_
  refine W.objInit hx hb hown hoi1 hoi2 hoi3 rfl (by rw [hml]; exact hl.1) rfl dX0_init_1 (Nat.le_of_ble_eq_true rfl) (Nat.le_of_ble_eq_true rfl) ?_
  refine W.eq (g2 := F0 m 4 ls []) rfl ?_
  refine lv_aload_n hx hb dX0_init_4 rfl (lv_at hl 0 rfl) ?_
  refine lv_sipush (v := 128) hx hb dX0_init_5 (by decide) ?_
  refine va_newa (atype := .int) (ty := .int) (a0 := (128, .inl (fun _ => 0))) (N' := 128) hx hb (hts (.arrayClass .int) (by decide +kernel)) rfl hK hP hD hS hA (fun _ => rfl) (by decide) rfl (Nat.le_of_ble_eq_true rfl) (by dsimp only [pq_R]; omega) (by dsimp only [pq_R]; omega) dX0_init_8 (fun q1 cA H hK9 hP hD hS => ?_)
  obtain rfl : cI = cA := (pq_same hK9).symm
  have hP : va_P D vwCl [(h, .inr (0, [.null, .null, .null, .null, .null, .null, .int 0, .int 0, .int 0])), (q1, .inl (cI, 128, .inl (fun _ => 0)))] H := hP
  have hD : va_D A [(h, .inr (0, [.null, .null, .null, .null, .null, .null, .int 0, .int 0, .int 0])), (q1, .inl (cI, 128, .inl (fun _ => 0)))] := hD
  refine W.widen (k := 1) (n := 128) (by omega) (by omega) ?_
  refine W.eq (g2 := F0 m 10 ls [.ref q1, .ref h]) rfl ?_
  refine va_putF (D := D) (ci := 0) (v := .ref q1) (ty := .array .int) (C := RX0) (T := TX0) (N := 9) hx hb hts hin_X0 tyX0 tyX0_ok nmX0 hown hK hP hD hS 0 rfl rfl 0 (by decide) hf_PressedPlains_Book_11 (fun _ h9 => h9) rfl hin rfl (by decide +kernel) rfl rfl (Nat.le_of_ble_eq_true rfl) dX0_init_10 (fun H locs hP hD hS => ?_)
  have hP : va_P D vwCl [(h, .inr (0, [.ref q1, .null, .null, .null, .null, .null, .int 0, .int 0, .int 0])), (q1, .inl (cI, 128, .inl (fun _ => 0)))] H := hP
  have hD : va_D A [(h, .inr (0, [.ref q1, .null, .null, .null, .null, .null, .int 0, .int 0, .int 0])), (q1, .inl (cI, 128, .inl (fun _ => 0)))] := hD
  refine lv_aload_n hx hb dX0_init_13 rfl (lv_at hl 0 rfl) ?_
  refine lv_sipush (v := 128) hx hb dX0_init_14 (by decide) ?_
  refine va_newa (atype := .int) (ty := .int) (a0 := (128, .inl (fun _ => 0))) (N' := 128) hx hb (hts (.arrayClass .int) (by decide +kernel)) rfl hK hP hD hS hA (fun _ => rfl) (by decide) rfl (Nat.le_of_ble_eq_true rfl) (by dsimp only [pq_R]; omega) (by dsimp only [pq_R]; omega) dX0_init_17 (fun q2 cA H hK9 hP hD hS => ?_)
  obtain rfl : cI = cA := (pq_same hK9).symm
  have hP : va_P D vwCl [(h, .inr (0, [.ref q1, .null, .null, .null, .null, .null, .int 0, .int 0, .int 0])), (q1, .inl (cI, 128, .inl (fun _ => 0))), (q2, .inl (cI, 128, .inl (fun _ => 0)))] H := hP
  have hD : va_D A [(h, .inr (0, [.ref q1, .null, .null, .null, .null, .null, .int 0, .int 0, .int 0])), (q1, .inl (cI, 128, .inl (fun _ => 0))), (q2, .inl (cI, 128, .inl (fun _ => 0)))] := hD
  refine W.widen (k := 2) (n := 256) (by omega) (by omega) ?_
  refine W.eq (g2 := F0 m 19 ls [.ref q2, .ref h]) rfl ?_
  refine va_putF (D := D) (ci := 0) (v := .ref q2) (ty := .array .int) (C := RX0) (T := TX0) (N := 9) hx hb hts hin_X0 tyX0 tyX0_ok nmX0 hown hK hP hD hS 0 rfl rfl 1 (by decide) hf_PressedPlains_Book_15 (fun _ h9 => h9) rfl hin rfl (by decide +kernel) rfl rfl (Nat.le_of_ble_eq_true rfl) dX0_init_19 (fun H locs hP hD hS => ?_)
  have hP : va_P D vwCl [(h, .inr (0, [.ref q1, .ref q2, .null, .null, .null, .null, .int 0, .int 0, .int 0])), (q1, .inl (cI, 128, .inl (fun _ => 0))), (q2, .inl (cI, 128, .inl (fun _ => 0)))] H := hP
  have hD : va_D A [(h, .inr (0, [.ref q1, .ref q2, .null, .null, .null, .null, .int 0, .int 0, .int 0])), (q1, .inl (cI, 128, .inl (fun _ => 0))), (q2, .inl (cI, 128, .inl (fun _ => 0)))] := hD
  refine lv_aload_n hx hb dX0_init_22 rfl (lv_at hl 0 rfl) ?_
  refine lv_sipush (v := 128) hx hb dX0_init_23 (by decide) ?_
  refine va_newa (atype := .int) (ty := .int) (a0 := (128, .inl (fun _ => 0))) (N' := 128) hx hb (hts (.arrayClass .int) (by decide +kernel)) rfl hK hP hD hS hA (fun _ => rfl) (by decide) rfl (Nat.le_of_ble_eq_true rfl) (by dsimp only [pq_R]; omega) (by dsimp only [pq_R]; omega) dX0_init_26 (fun q3 cA H hK9 hP hD hS => ?_)
  obtain rfl : cI = cA := (pq_same hK9).symm
  have hP : va_P D vwCl [(h, .inr (0, [.ref q1, .ref q2, .null, .null, .null, .null, .int 0, .int 0, .int 0])), (q1, .inl (cI, 128, .inl (fun _ => 0))), (q2, .inl (cI, 128, .inl (fun _ => 0))), (q3, .inl (cI, 128, .inl (fun _ => 0)))] H := hP
  have hD : va_D A [(h, .inr (0, [.ref q1, .ref q2, .null, .null, .null, .null, .int 0, .int 0, .int 0])), (q1, .inl (cI, 128, .inl (fun _ => 0))), (q2, .inl (cI, 128, .inl (fun _ => 0))), (q3, .inl (cI, 128, .inl (fun _ => 0)))] := hD
  refine W.widen (k := 3) (n := 384) (by omega) (by omega) ?_
  refine W.eq (g2 := F0 m 28 ls [.ref q3, .ref h]) rfl ?_
  refine va_putF (D := D) (ci := 0) (v := .ref q3) (ty := .array .int) (C := RX0) (T := TX0) (N := 9) hx hb hts hin_X0 tyX0 tyX0_ok nmX0 hown hK hP hD hS 0 rfl rfl 2 (by decide) hf_PressedPlains_Book_18 (fun _ h9 => h9) rfl hin rfl (by decide +kernel) rfl rfl (Nat.le_of_ble_eq_true rfl) dX0_init_28 (fun H locs hP hD hS => ?_)
  have hP : va_P D vwCl [(h, .inr (0, [.ref q1, .ref q2, .ref q3, .null, .null, .null, .int 0, .int 0, .int 0])), (q1, .inl (cI, 128, .inl (fun _ => 0))), (q2, .inl (cI, 128, .inl (fun _ => 0))), (q3, .inl (cI, 128, .inl (fun _ => 0)))] H := hP
  have hD : va_D A [(h, .inr (0, [.ref q1, .ref q2, .ref q3, .null, .null, .null, .int 0, .int 0, .int 0])), (q1, .inl (cI, 128, .inl (fun _ => 0))), (q2, .inl (cI, 128, .inl (fun _ => 0))), (q3, .inl (cI, 128, .inl (fun _ => 0)))] := hD
  refine lv_aload_n hx hb dX0_init_31 rfl (lv_at hl 0 rfl) ?_
  refine lv_sipush (v := 128) hx hb dX0_init_32 (by decide) ?_
  refine va_newa (atype := .int) (ty := .int) (a0 := (128, .inl (fun _ => 0))) (N' := 128) hx hb (hts (.arrayClass .int) (by decide +kernel)) rfl hK hP hD hS hA (fun _ => rfl) (by decide) rfl (Nat.le_of_ble_eq_true rfl) (by dsimp only [pq_R]; omega) (by dsimp only [pq_R]; omega) dX0_init_35 (fun q4 cA H hK9 hP hD hS => ?_)
  obtain rfl : cI = cA := (pq_same hK9).symm
  have hP : va_P D vwCl [(h, .inr (0, [.ref q1, .ref q2, .ref q3, .null, .null, .null, .int 0, .int 0, .int 0])), (q1, .inl (cI, 128, .inl (fun _ => 0))), (q2, .inl (cI, 128, .inl (fun _ => 0))), (q3, .inl (cI, 128, .inl (fun _ => 0))), (q4, .inl (cI, 128, .inl (fun _ => 0)))] H := hP
  have hD : va_D A [(h, .inr (0, [.ref q1, .ref q2, .ref q3, .null, .null, .null, .int 0, .int 0, .int 0])), (q1, .inl (cI, 128, .inl (fun _ => 0))), (q2, .inl (cI, 128, .inl (fun _ => 0))), (q3, .inl (cI, 128, .inl (fun _ => 0))), (q4, .inl (cI, 128, .inl (fun _ => 0)))] := hD
  refine W.widen (k := 4) (n := 512) (by omega) (by omega) ?_
  refine W.eq (g2 := F0 m 37 ls [.ref q4, .ref h]) rfl ?_
  refine va_putF (D := D) (ci := 0) (v := .ref q4) (ty := .array .int) (C := RX0) (T := TX0) (N := 9) hx hb hts hin_X0 tyX0 tyX0_ok nmX0 hown hK hP hD hS 0 rfl rfl 3 (by decide) hf_PressedPlains_Book_21 (fun _ h9 => h9) rfl hin rfl (by decide +kernel) rfl rfl (Nat.le_of_ble_eq_true rfl) dX0_init_37 (fun H locs hP hD hS => ?_)
  have hP : va_P D vwCl [(h, .inr (0, [.ref q1, .ref q2, .ref q3, .ref q4, .null, .null, .int 0, .int 0, .int 0])), (q1, .inl (cI, 128, .inl (fun _ => 0))), (q2, .inl (cI, 128, .inl (fun _ => 0))), (q3, .inl (cI, 128, .inl (fun _ => 0))), (q4, .inl (cI, 128, .inl (fun _ => 0)))] H := hP
  have hD : va_D A [(h, .inr (0, [.ref q1, .ref q2, .ref q3, .ref q4, .null, .null, .int 0, .int 0, .int 0])), (q1, .inl (cI, 128, .inl (fun _ => 0))), (q2, .inl (cI, 128, .inl (fun _ => 0))), (q3, .inl (cI, 128, .inl (fun _ => 0))), (q4, .inl (cI, 128, .inl (fun _ => 0)))] := hD
  refine lv_aload_n hx hb dX0_init_40 rfl (lv_at hl 0 rfl) ?_
  refine lv_sipush (v := 128) hx hb dX0_init_41 (by decide) ?_
  refine va_newa (atype := .int) (ty := .int) (a0 := (128, .inl (fun _ => 0))) (N' := 128) hx hb (hts (.arrayClass .int) (by decide +kernel)) rfl hK hP hD hS hA (fun _ => rfl) (by decide) rfl (Nat.le_of_ble_eq_true rfl) (by dsimp only [pq_R]; omega) (by dsimp only [pq_R]; omega) dX0_init_44 (fun q5 cA H hK9 hP hD hS => ?_)
  obtain rfl : cI = cA := (pq_same hK9).symm
  have hP : va_P D vwCl [(h, .inr (0, [.ref q1, .ref q2, .ref q3, .ref q4, .null, .null, .int 0, .int 0, .int 0])), (q1, .inl (cI, 128, .inl (fun _ => 0))), (q2, .inl (cI, 128, .inl (fun _ => 0))), (q3, .inl (cI, 128, .inl (fun _ => 0))), (q4, .inl (cI, 128, .inl (fun _ => 0))), (q5, .inl (cI, 128, .inl (fun _ => 0)))] H := hP
  have hD : va_D A [(h, .inr (0, [.ref q1, .ref q2, .ref q3, .ref q4, .null, .null, .int 0, .int 0, .int 0])), (q1, .inl (cI, 128, .inl (fun _ => 0))), (q2, .inl (cI, 128, .inl (fun _ => 0))), (q3, .inl (cI, 128, .inl (fun _ => 0))), (q4, .inl (cI, 128, .inl (fun _ => 0))), (q5, .inl (cI, 128, .inl (fun _ => 0)))] := hD
  refine W.widen (k := 5) (n := 640) (by omega) (by omega) ?_
  refine W.eq (g2 := F0 m 46 ls [.ref q5, .ref h]) rfl ?_
  refine va_putF (D := D) (ci := 0) (v := .ref q5) (ty := .array .int) (C := RX0) (T := TX0) (N := 9) hx hb hts hin_X0 tyX0 tyX0_ok nmX0 hown hK hP hD hS 0 rfl rfl 4 (by decide) hf_PressedPlains_Book_24 (fun _ h9 => h9) rfl hin rfl (by decide +kernel) rfl rfl (Nat.le_of_ble_eq_true rfl) dX0_init_46 (fun H locs hP hD hS => ?_)
  have hP : va_P D vwCl [(h, .inr (0, [.ref q1, .ref q2, .ref q3, .ref q4, .ref q5, .null, .int 0, .int 0, .int 0])), (q1, .inl (cI, 128, .inl (fun _ => 0))), (q2, .inl (cI, 128, .inl (fun _ => 0))), (q3, .inl (cI, 128, .inl (fun _ => 0))), (q4, .inl (cI, 128, .inl (fun _ => 0))), (q5, .inl (cI, 128, .inl (fun _ => 0)))] H := hP
  have hD : va_D A [(h, .inr (0, [.ref q1, .ref q2, .ref q3, .ref q4, .ref q5, .null, .int 0, .int 0, .int 0])), (q1, .inl (cI, 128, .inl (fun _ => 0))), (q2, .inl (cI, 128, .inl (fun _ => 0))), (q3, .inl (cI, 128, .inl (fun _ => 0))), (q4, .inl (cI, 128, .inl (fun _ => 0))), (q5, .inl (cI, 128, .inl (fun _ => 0)))] := hD
  refine lv_aload_n hx hb dX0_init_49 rfl (lv_at hl 0 rfl) ?_
  refine lv_sipush (v := 128) hx hb dX0_init_50 (by decide) ?_
  refine va_newa (atype := .int) (ty := .int) (a0 := (128, .inl (fun _ => 0))) (N' := 128) hx hb (hts (.arrayClass .int) (by decide +kernel)) rfl hK hP hD hS hA (fun _ => rfl) (by decide) rfl (Nat.le_of_ble_eq_true rfl) (by dsimp only [pq_R]; omega) (by dsimp only [pq_R]; omega) dX0_init_53 (fun q6 cA H hK9 hP hD hS => ?_)
  obtain rfl : cI = cA := (pq_same hK9).symm
  have hP : va_P D vwCl [(h, .inr (0, [.ref q1, .ref q2, .ref q3, .ref q4, .ref q5, .null, .int 0, .int 0, .int 0])), (q1, .inl (cI, 128, .inl (fun _ => 0))), (q2, .inl (cI, 128, .inl (fun _ => 0))), (q3, .inl (cI, 128, .inl (fun _ => 0))), (q4, .inl (cI, 128, .inl (fun _ => 0))), (q5, .inl (cI, 128, .inl (fun _ => 0))), (q6, .inl (cI, 128, .inl (fun _ => 0)))] H := hP
  have hD : va_D A [(h, .inr (0, [.ref q1, .ref q2, .ref q3, .ref q4, .ref q5, .null, .int 0, .int 0, .int 0])), (q1, .inl (cI, 128, .inl (fun _ => 0))), (q2, .inl (cI, 128, .inl (fun _ => 0))), (q3, .inl (cI, 128, .inl (fun _ => 0))), (q4, .inl (cI, 128, .inl (fun _ => 0))), (q5, .inl (cI, 128, .inl (fun _ => 0))), (q6, .inl (cI, 128, .inl (fun _ => 0)))] := hD
  refine W.widen (k := 6) (n := 768) (by omega) (by omega) ?_
  refine W.eq (g2 := F0 m 55 ls [.ref q6, .ref h]) rfl ?_
  refine va_putF (D := D) (ci := 0) (v := .ref q6) (ty := .array .int) (C := RX0) (T := TX0) (N := 9) hx hb hts hin_X0 tyX0 tyX0_ok nmX0 hown hK hP hD hS 0 rfl rfl 5 (by decide) hf_PressedPlains_Book_27 (fun _ h9 => h9) rfl hin rfl (by decide +kernel) rfl rfl (Nat.le_of_ble_eq_true rfl) dX0_init_55 (fun H locs hP hD hS => ?_)
  have hP : va_P D vwCl [(h, .inr (0, [.ref q1, .ref q2, .ref q3, .ref q4, .ref q5, .ref q6, .int 0, .int 0, .int 0])), (q1, .inl (cI, 128, .inl (fun _ => 0))), (q2, .inl (cI, 128, .inl (fun _ => 0))), (q3, .inl (cI, 128, .inl (fun _ => 0))), (q4, .inl (cI, 128, .inl (fun _ => 0))), (q5, .inl (cI, 128, .inl (fun _ => 0))), (q6, .inl (cI, 128, .inl (fun _ => 0)))] H := hP
  have hD : va_D A [(h, .inr (0, [.ref q1, .ref q2, .ref q3, .ref q4, .ref q5, .ref q6, .int 0, .int 0, .int 0])), (q1, .inl (cI, 128, .inl (fun _ => 0))), (q2, .inl (cI, 128, .inl (fun _ => 0))), (q3, .inl (cI, 128, .inl (fun _ => 0))), (q4, .inl (cI, 128, .inl (fun _ => 0))), (q5, .inl (cI, 128, .inl (fun _ => 0))), (q6, .inl (cI, 128, .inl (fun _ => 0)))] := hD
  exact pq_vret hQ hx hb hr hlocks hK hS hP hD dX0_init_58 (by omega) (by omega) (⟨q1, q2, q3, q4, q5, q6, rfl, rfl⟩)

set_option maxHeartbeats 4000000 in
set_option maxRecDepth 100000 in
theorem mX1_init (l : Launch) (D : va_G) (cI : ClassId) (g : Nat) : pq_M l yX1_init wsX1_init 1 30 2 128 D [(cI, .int)] pq_0 [(g, .inr (1, [.null, .null, .int 0, .int 0]))] [.ref g] (fun v w1 => ∃ (b0 b1 : Nat), v = none ∧ w1 = grW g b0 b1 cI ((fun _ => 0), (fun _ => 0), 0, 0)) := by
  refine pq_enter (cc := cX1_init) (maxL := 1) (ret := none) (by decide) rfl (Nat.le_of_ble_eq_true rfl) ?_
  intro p ev s m args below meth cd A ls Q H locs hx hb hr hml hts hown hlocks hnm hK hP hD hS hA hE hl hQ
  have hl : lv_has ls 1 [(0, .ref g)] := hl
  have hP : va_P D vwCl [(g, .inr (1, [.null, .null, .int 0, .int 0]))] H := hP
  have hD : va_D A [(g, .inr (1, [.null, .null, .int 0, .int 0]))] := hD
  have hin : meth.name = "<init>" := hnm
  have hoi1 := hts (.methodLink RX1 3 objectInit) (by decide +kernel)
  have hoi2 := hts (.instanceMethod objectInit) (by decide +kernel)
  have hoi3 := hts (.code objectInit ⟨#[0xb1]⟩ 1 none) (by decide +kernel)
  have hin_X1 : ∀ w ∈ wsX10, w ∈ wsX1_init := by decide +kernel
  have hf_PressedPlains_Ground_9 := hts (.fieldLink RX1 9 "PressedPlains$Ground" "heights" "[I") (by decide +kernel)
  have hf_PressedPlains_Ground_15 := hts (.fieldLink RX1 15 "PressedPlains$Ground" "ceilings" "[I") (by decide +kernel)
  refine lv_aload_n hx hb dX1_init_0 rfl (lv_at hl 0 rfl) ?_
  refine W.objInit hx hb hown hoi1 hoi2 hoi3 rfl (by rw [hml]; exact hl.1) rfl dX1_init_1 (Nat.le_of_ble_eq_true rfl) (Nat.le_of_ble_eq_true rfl) ?_
  refine W.eq (g2 := F0 m 4 ls []) rfl ?_
  refine lv_aload_n hx hb dX1_init_4 rfl (lv_at hl 0 rfl) ?_
  refine lv_bipush (v := 64) hx hb dX1_init_5 (by decide) ?_
  refine va_newa (atype := .int) (ty := .int) (a0 := (64, .inl (fun _ => 0))) (N' := 64) hx hb (hts (.arrayClass .int) (by decide +kernel)) rfl hK hP hD hS hA (fun _ => rfl) (by decide) rfl (Nat.le_of_ble_eq_true rfl) (by dsimp only [pq_R]; omega) (by dsimp only [pq_R]; omega) dX1_init_7 (fun q1 cA H hK9 hP hD hS => ?_)
  obtain rfl : cI = cA := (pq_same hK9).symm
  have hP : va_P D vwCl [(g, .inr (1, [.null, .null, .int 0, .int 0])), (q1, .inl (cI, 64, .inl (fun _ => 0)))] H := hP
  have hD : va_D A [(g, .inr (1, [.null, .null, .int 0, .int 0])), (q1, .inl (cI, 64, .inl (fun _ => 0)))] := hD
  refine W.widen (k := 1) (n := 64) (by omega) (by omega) ?_
  refine W.eq (g2 := F0 m 9 ls [.ref q1, .ref g]) rfl ?_
  refine va_putF (D := D) (ci := 1) (v := .ref q1) (ty := .array .int) (C := RX1) (T := TX1) (N := 4) hx hb hts hin_X1 tyX1 tyX1_ok nmX1 hown hK hP hD hS 0 rfl rfl 0 (by decide) hf_PressedPlains_Ground_9 (fun _ h9 => h9) rfl hin rfl (by decide +kernel) rfl rfl (Nat.le_of_ble_eq_true rfl) dX1_init_9 (fun H locs hP hD hS => ?_)
  have hP : va_P D vwCl [(g, .inr (1, [.ref q1, .null, .int 0, .int 0])), (q1, .inl (cI, 64, .inl (fun _ => 0)))] H := hP
  have hD : va_D A [(g, .inr (1, [.ref q1, .null, .int 0, .int 0])), (q1, .inl (cI, 64, .inl (fun _ => 0)))] := hD
  refine lv_aload_n hx hb dX1_init_12 rfl (lv_at hl 0 rfl) ?_
  refine lv_bipush (v := 64) hx hb dX1_init_13 (by decide) ?_
  refine va_newa (atype := .int) (ty := .int) (a0 := (64, .inl (fun _ => 0))) (N' := 64) hx hb (hts (.arrayClass .int) (by decide +kernel)) rfl hK hP hD hS hA (fun _ => rfl) (by decide) rfl (Nat.le_of_ble_eq_true rfl) (by dsimp only [pq_R]; omega) (by dsimp only [pq_R]; omega) dX1_init_15 (fun q2 cA H hK9 hP hD hS => ?_)
  obtain rfl : cI = cA := (pq_same hK9).symm
  have hP : va_P D vwCl [(g, .inr (1, [.ref q1, .null, .int 0, .int 0])), (q1, .inl (cI, 64, .inl (fun _ => 0))), (q2, .inl (cI, 64, .inl (fun _ => 0)))] H := hP
  have hD : va_D A [(g, .inr (1, [.ref q1, .null, .int 0, .int 0])), (q1, .inl (cI, 64, .inl (fun _ => 0))), (q2, .inl (cI, 64, .inl (fun _ => 0)))] := hD
  refine W.widen (k := 2) (n := 128) (by omega) (by omega) ?_
  refine W.eq (g2 := F0 m 17 ls [.ref q2, .ref g]) rfl ?_
  refine va_putF (D := D) (ci := 1) (v := .ref q2) (ty := .array .int) (C := RX1) (T := TX1) (N := 4) hx hb hts hin_X1 tyX1 tyX1_ok nmX1 hown hK hP hD hS 0 rfl rfl 1 (by decide) hf_PressedPlains_Ground_15 (fun _ h9 => h9) rfl hin rfl (by decide +kernel) rfl rfl (Nat.le_of_ble_eq_true rfl) dX1_init_17 (fun H locs hP hD hS => ?_)
  have hP : va_P D vwCl [(g, .inr (1, [.ref q1, .ref q2, .int 0, .int 0])), (q1, .inl (cI, 64, .inl (fun _ => 0))), (q2, .inl (cI, 64, .inl (fun _ => 0)))] H := hP
  have hD : va_D A [(g, .inr (1, [.ref q1, .ref q2, .int 0, .int 0])), (q1, .inl (cI, 64, .inl (fun _ => 0))), (q2, .inl (cI, 64, .inl (fun _ => 0)))] := hD
  exact pq_vret hQ hx hb hr hlocks hK hS hP hD dX1_init_20 (by omega) (by omega) (⟨q1, q2, rfl, rfl⟩)
