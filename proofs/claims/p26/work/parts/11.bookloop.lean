set_option maxHeartbeats 4000000 in
set_option maxRecDepth 100000 in
theorem mX0_has (l : Launch) (D : va_G) (cI : ClassId) (h a0 a1 a2 a3 a4 a5 : Nat) (fi la : Nat → Int32) (B : BK) (x : Int32) : pq_M l yX0_has wsX0_has 0 0 0 0 D [(cI, .int)] pq_0 (bkW h a0 a1 a2 a3 a4 a5 cI fi la B) [.ref h, .int x] (fun v w1 => v = some (.int (if bHas la x then 1 else 0)) ∧ w1 = bkW h a0 a1 a2 a3 a4 a5 cI fi la B) := by
  refine pq_enter (cc := cX0_has) (maxL := 2) (ret := (some .boolean)) (by decide) rfl (Nat.le_of_ble_eq_true rfl) ?_
  intro p ev s m args below meth cd A ls Q H locs hx hb hr hml hts hown hlocks hnm hK hP hD hS hA hE hl hQ
  have hl : lv_has ls 2 [(0, .ref h), (1, .int x)] := hl
  have hP : va_P D vwCl [(h, .inr (0, [.ref a0, .ref a1, .ref a2, .ref a3, .ref a4, .ref a5, .int B.2.2.2.2.1, .int B.2.2.2.2.2.1, .int B.2.2.2.2.2.2])), (a0, .inl (cI, 128, .inl fi)), (a1, .inl (cI, 128, .inl la)), (a2, .inl (cI, 128, .inl B.1)), (a3, .inl (cI, 128, .inl B.2.1)), (a4, .inl (cI, 128, .inl B.2.2.1)), (a5, .inl (cI, 128, .inl B.2.2.2.1))] H := hP
  have hD : va_D A [(h, .inr (0, [.ref a0, .ref a1, .ref a2, .ref a3, .ref a4, .ref a5, .int B.2.2.2.2.1, .int B.2.2.2.2.2.1, .int B.2.2.2.2.2.2])), (a0, .inl (cI, 128, .inl fi)), (a1, .inl (cI, 128, .inl la)), (a2, .inl (cI, 128, .inl B.1)), (a3, .inl (cI, 128, .inl B.2.1)), (a4, .inl (cI, 128, .inl B.2.2.1)), (a5, .inl (cI, 128, .inl B.2.2.2.1))] := hD
  have hin_X0 : ∀ w ∈ wsX00, w ∈ wsX0_has := by decide +kernel
  have hf_PressedPlains_Book_15 := hts (.fieldLink RX0 15 "PressedPlains$Book" "last" "[I") (by decide +kernel)
  refine lv_iload_n hx hb dX0_has_0 rfl (lv_at hl 1 rfl) ?_
  refine lv_iconst (v := 1) hx hb dX0_has_1 (by decide) ?_
  refine lv_icmp_lt (tgt := 26) hx hb dX0_has_2 (by decide) (fun c_1 => ?_) (fun c_1 => ?_)
  · refine lv_iconst (v := 0) hx hb dX0_has_26 (by decide) ?_
    exact pq_zret hQ hx hb hr hlocks hK hS hP hD dX0_has_27 (by omega) (by omega) (by decide) (⟨by rw [if_neg (show ¬ (bHas la x) from fun h => h.1 c_1)], rfl⟩)
  · refine lv_iload_n hx hb dX0_has_5 rfl (lv_at hl 1 rfl) ?_
    refine lv_sipush (v := 128) hx hb dX0_has_6 (by decide) ?_
    refine lv_icmp_ge (tgt := 26) hx hb dX0_has_9 (by decide) (fun c_2 => ?_) (fun c_2 => ?_)
    · refine lv_iconst (v := 0) hx hb dX0_has_26 (by decide) ?_
      exact pq_zret hQ hx hb hr hlocks hK hS hP hD dX0_has_27 (by omega) (by omega) (by decide) (⟨by rw [if_neg (show ¬ (bHas la x) from fun h => h.2.1 c_2)], rfl⟩)
    · refine lv_aload_n hx hb dX0_has_12 rfl (lv_at hl 0 rfl) ?_
      refine va_get (D := D) (ci := 0) (v := .ref a1) (C := RX0) (T := TX0) (N := 9) hx hb hts hin_X0 hown hK hP 0 rfl rfl 1 (by decide) hf_PressedPlains_Book_15 (fun _ h9 => h9) rfl dX0_has_13 ?_
      refine lv_iload_n hx hb dX0_has_16 rfl (lv_at hl 1 rfl) ?_
      refine va_iald hx hb hK hP 2 0 rfl rfl (bHas_in c_1 c_2) dX0_has_17 ?_
      refine lv_iconst (v := (-1)) hx hb dX0_has_18 (by decide) ?_
      refine lv_icmp_eq (tgt := 26) hx hb dX0_has_19 (by decide) (fun c_3 => ?_) (fun c_3 => ?_)
      · refine lv_iconst (v := 0) hx hb dX0_has_26 (by decide) ?_
        exact pq_zret hQ hx hb hr hlocks hK hS hP hD dX0_has_27 (by omega) (by omega) (by decide) (⟨by rw [if_neg (show ¬ (bHas la x) from fun h => h.2.2 c_3)], rfl⟩)
      · refine lv_iconst (v := 1) hx hb dX0_has_22 (by decide) ?_
        refine lv_goto (tgt := 27) hx hb dX0_has_23 (by decide) ?_
        exact pq_zret hQ hx hb hr hlocks hK hS hP hD dX0_has_27 (by omega) (by omega) (by decide) (⟨by rw [if_pos (show bHas la x from ⟨c_1, c_2, c_3⟩)], rfl⟩)

set_option maxHeartbeats 4000000 in
set_option maxRecDepth 100000 in
theorem mX0_press (l : Launch) (D : va_G) (cI : ClassId) (h a0 a1 a2 a3 a4 a5 : Nat) (fi la : Nat → Int32) (B : BK) (a b c0 : Int32) : pq_M l yX0_press wsX0_press 12 289 0 0 D [(cI, .int)] pq_0 (bkW h a0 a1 a2 a3 a4 a5 cI fi la B) [.ref h, .int a, .int b, .int c0] (fun v w1 => v = some (.int (B.2.2.2.1 1 - (bPressFrom fi la a b c0 7 (bBegin B) 1).2.2.2.1 1)) ∧ w1 = bkW h a0 a1 a2 a3 a4 a5 cI fi la (bPressFrom fi la a b c0 7 (bBegin B) 1)) := by
  refine pq_enter (cc := cX0_press) (maxL := 5) (ret := (some .int)) (by decide) rfl (Nat.le_of_ble_eq_true rfl) ?_
  intro p ev s m args below meth cd A ls Q H locs hx hb hr hml hts hown hlocks hnm hK hP hD hS hA hE hl hQ
  have hl : lv_has ls 5 [(0, .ref h), (1, .int a), (2, .int b), (3, .int c0)] := hl
  have hP : va_P D vwCl [(h, .inr (0, [.ref a0, .ref a1, .ref a2, .ref a3, .ref a4, .ref a5, .int B.2.2.2.2.1, .int B.2.2.2.2.2.1, .int B.2.2.2.2.2.2])), (a0, .inl (cI, 128, .inl fi)), (a1, .inl (cI, 128, .inl la)), (a2, .inl (cI, 128, .inl B.1)), (a3, .inl (cI, 128, .inl B.2.1)), (a4, .inl (cI, 128, .inl B.2.2.1)), (a5, .inl (cI, 128, .inl B.2.2.2.1))] H := hP
  have hD : va_D A [(h, .inr (0, [.ref a0, .ref a1, .ref a2, .ref a3, .ref a4, .ref a5, .int B.2.2.2.2.1, .int B.2.2.2.2.2.1, .int B.2.2.2.2.2.2])), (a0, .inl (cI, 128, .inl fi)), (a1, .inl (cI, 128, .inl la)), (a2, .inl (cI, 128, .inl B.1)), (a3, .inl (cI, 128, .inl B.2.1)), (a4, .inl (cI, 128, .inl B.2.2.1)), (a5, .inl (cI, 128, .inl B.2.2.2.1))] := hD
  have hin_X0 : ∀ w ∈ wsX00, w ∈ wsX0_press := by decide +kernel
  have hf_PressedPlains_Book_27 := hts (.fieldLink RX0 27 "PressedPlains$Book" "sum" "[I") (by decide +kernel)
  refine lv_aload_n hx hb dX0_press_0 rfl (lv_at hl 0 rfl) ?_
  refine pq_callV (wr := []) (own := RX0) (nL := 5) (q0 := 0) (ci := 0) [0, 1, 2, 3, 4, 5, 6] [] [] (mX0_beginCall l D cI h a0 a1 a2 a3 a4 a5 fi la B ) ⟨hx, hb, hml, hown, hts⟩ (cwV 0 hts gX0_press_X0_beginCall rfl rfl rfl (by decide +kernel) ⟨by dsimp only [pq_R]; omega, by dsimp only [pq_R]; omega⟩) pq_bl0 (fun _ _ _ => trivial) hK hP hD hS hA rfl (by decide) rfl (by decide) (by decide) rfl rfl rfl rfl hl.1 rfl (Nat.le_of_ble_eq_true rfl) dX0_press_1 ⟨by dsimp only [pq_R]; omega, by dsimp only [pq_R]; omega⟩ (fun v w1 H locs hq hP hD hS hz => ?_)
  obtain ⟨rfl, rfl⟩ := hq
  obtain ⟨B_1, hB_1⟩ : ∃ zz, zz = bBegin B := ⟨_, rfl⟩
  rw [← hB_1] at hP hD
  have hP : va_P D vwCl [(h, .inr (0, [.ref a0, .ref a1, .ref a2, .ref a3, .ref a4, .ref a5, .int B_1.2.2.2.2.1, .int B_1.2.2.2.2.2.1, .int B_1.2.2.2.2.2.2])), (a0, .inl (cI, 128, .inl fi)), (a1, .inl (cI, 128, .inl la)), (a2, .inl (cI, 128, .inl B_1.1)), (a3, .inl (cI, 128, .inl B_1.2.1)), (a4, .inl (cI, 128, .inl B_1.2.2.1)), (a5, .inl (cI, 128, .inl B_1.2.2.2.1))] H := hP
  have hD : va_D A [(h, .inr (0, [.ref a0, .ref a1, .ref a2, .ref a3, .ref a4, .ref a5, .int B_1.2.2.2.2.1, .int B_1.2.2.2.2.2.1, .int B_1.2.2.2.2.2.2])), (a0, .inl (cI, 128, .inl fi)), (a1, .inl (cI, 128, .inl la)), (a2, .inl (cI, 128, .inl B_1.1)), (a3, .inl (cI, 128, .inl B_1.2.1)), (a4, .inl (cI, 128, .inl B_1.2.2.1)), (a5, .inl (cI, 128, .inl B_1.2.2.2.1))] := hD
  refine W.eq (g2 := F0 m 4 ls []) rfl ?_
  refine lv_aload_n hx hb dX0_press_4 rfl (lv_at hl 0 rfl) ?_
  refine va_get (D := D) (ci := 0) (v := .ref a5) (C := RX0) (T := TX0) (N := 9) hx hb hts hin_X0 hown hK hP 0 rfl rfl 5 (by decide) hf_PressedPlains_Book_27 (fun _ h9 => h9) rfl dX0_press_5 ?_
  refine lv_iconst (v := 1) hx hb dX0_press_8 (by decide) ?_
  refine pq_iald hx hb hK hP 6 0 rfl rfl 1 (by omega) (by decide) dX0_press_9 ?_
  refine lv_istore (lv' := [(4, .int (B_1.2.2.2.1 1)), (0, .ref h), (1, .int a), (2, .int b), (3, .int c0)]) hx hb dX0_press_10 hl (by decide) rfl (fun ls hl => ?_)
  refine lv_aload_n hx hb dX0_press_12 rfl (lv_at hl 1 rfl) ?_
  refine lv_iconst (v := 1) hx hb dX0_press_13 (by decide) ?_
  refine lv_iload_n hx hb dX0_press_14 rfl (lv_at hl 2 rfl) ?_
  refine lv_iload_n hx hb dX0_press_15 rfl (lv_at hl 3 rfl) ?_
  refine lv_iload_n hx hb dX0_press_16 rfl (lv_at hl 4 rfl) ?_
  refine pq_callV (wr := []) (own := RX0) (nL := 5) (q0 := 0) (ci := 0) [0, 1, 2, 3, 4, 5, 6] [] [.int 1, .int a, .int b, .int c0] (mX0_pressFrom l D cI h a0 a1 a2 a3 a4 a5 fi la a b c0 7 B_1 1 (by decide) (by decide)) ⟨hx, hb, hml, hown, hts⟩ (cwV 4 hts gX0_press_X0_pressFrom rfl rfl rfl (by decide +kernel) ⟨by dsimp only [pq_R]; omega, by dsimp only [pq_R]; omega⟩) pq_bl0 (fun _ _ _ => trivial) hK hP hD hS hA rfl (by decide) rfl (by decide) (by decide) rfl rfl rfl rfl hl.1 rfl (Nat.le_of_ble_eq_true rfl) dX0_press_17 ⟨by dsimp only [pq_R]; omega, by dsimp only [pq_R]; omega⟩ (fun v w1 H locs hq hP hD hS hz => ?_)
  obtain ⟨rfl, rfl⟩ := hq
  obtain ⟨B_2, hB_2⟩ : ∃ zz, zz = bPressFrom fi la a b c0 7 B_1 1 := ⟨_, rfl⟩
  rw [← hB_2] at hP hD
  have hP : va_P D vwCl [(h, .inr (0, [.ref a0, .ref a1, .ref a2, .ref a3, .ref a4, .ref a5, .int B_2.2.2.2.2.1, .int B_2.2.2.2.2.2.1, .int B_2.2.2.2.2.2.2])), (a0, .inl (cI, 128, .inl fi)), (a1, .inl (cI, 128, .inl la)), (a2, .inl (cI, 128, .inl B_2.1)), (a3, .inl (cI, 128, .inl B_2.2.1)), (a4, .inl (cI, 128, .inl B_2.2.2.1)), (a5, .inl (cI, 128, .inl B_2.2.2.2.1))] H := hP
  have hD : va_D A [(h, .inr (0, [.ref a0, .ref a1, .ref a2, .ref a3, .ref a4, .ref a5, .int B_2.2.2.2.2.1, .int B_2.2.2.2.2.2.1, .int B_2.2.2.2.2.2.2])), (a0, .inl (cI, 128, .inl fi)), (a1, .inl (cI, 128, .inl la)), (a2, .inl (cI, 128, .inl B_2.1)), (a3, .inl (cI, 128, .inl B_2.2.1)), (a4, .inl (cI, 128, .inl B_2.2.2.1)), (a5, .inl (cI, 128, .inl B_2.2.2.2.1))] := hD
  refine W.eq (g2 := F0 m 20 ls []) rfl ?_
  refine lv_iload hx hb dX0_press_20 (lv_at hl 0 rfl) ?_
  refine lv_aload_n hx hb dX0_press_22 rfl (lv_at hl 1 rfl) ?_
  refine va_get (D := D) (ci := 0) (v := .ref a5) (C := RX0) (T := TX0) (N := 9) hx hb hts hin_X0 hown hK hP 0 rfl rfl 5 (by decide) hf_PressedPlains_Book_27 (fun _ h9 => h9) rfl dX0_press_23 ?_
  refine lv_iconst (v := 1) hx hb dX0_press_26 (by decide) ?_
  refine pq_iald hx hb hK hP 6 0 rfl rfl 1 (by omega) (by decide) dX0_press_27 ?_
  refine lv_isub hx hb dX0_press_28 ?_
  exact pq_iret hQ hx hb hr hlocks hK hS hP hD dX0_press_29 (by omega) (by omega) (⟨by subst hB_2; subst hB_1; rfl, by subst hB_2; subst hB_1; rfl⟩)

set_option maxHeartbeats 4000000 in
set_option maxRecDepth 100000 in
theorem mX0_raise (l : Launch) (D : va_G) (cI : ClassId) (h a0 a1 a2 a3 a4 a5 : Nat) (fi la : Nat → Int32) (B : BK) (x v0 : Int32) : pq_M l yX0_raise wsX0_raise 12 280 0 0 D [(cI, .int)] pq_0 (bkW h a0 a1 a2 a3 a4 a5 cI fi la B) [.ref h, .int x, .int v0] (fun v w1 => v = none ∧ w1 = bkW h a0 a1 a2 a3 a4 a5 cI fi la (bRaiseFrom fi la x v0 7 (bBegin B) 1)) := by
  refine pq_enter (cc := cX0_raise) (maxL := 3) (ret := none) (by decide) rfl (Nat.le_of_ble_eq_true rfl) ?_
  intro p ev s m args below meth cd A ls Q H locs hx hb hr hml hts hown hlocks hnm hK hP hD hS hA hE hl hQ
  have hl : lv_has ls 3 [(0, .ref h), (1, .int x), (2, .int v0)] := hl
  have hP : va_P D vwCl [(h, .inr (0, [.ref a0, .ref a1, .ref a2, .ref a3, .ref a4, .ref a5, .int B.2.2.2.2.1, .int B.2.2.2.2.2.1, .int B.2.2.2.2.2.2])), (a0, .inl (cI, 128, .inl fi)), (a1, .inl (cI, 128, .inl la)), (a2, .inl (cI, 128, .inl B.1)), (a3, .inl (cI, 128, .inl B.2.1)), (a4, .inl (cI, 128, .inl B.2.2.1)), (a5, .inl (cI, 128, .inl B.2.2.2.1))] H := hP
  have hD : va_D A [(h, .inr (0, [.ref a0, .ref a1, .ref a2, .ref a3, .ref a4, .ref a5, .int B.2.2.2.2.1, .int B.2.2.2.2.2.1, .int B.2.2.2.2.2.2])), (a0, .inl (cI, 128, .inl fi)), (a1, .inl (cI, 128, .inl la)), (a2, .inl (cI, 128, .inl B.1)), (a3, .inl (cI, 128, .inl B.2.1)), (a4, .inl (cI, 128, .inl B.2.2.1)), (a5, .inl (cI, 128, .inl B.2.2.2.1))] := hD
  refine lv_aload_n hx hb dX0_raise_0 rfl (lv_at hl 0 rfl) ?_
  refine pq_callV (wr := []) (own := RX0) (nL := 3) (q0 := 0) (ci := 0) [0, 1, 2, 3, 4, 5, 6] [] [] (mX0_beginCall l D cI h a0 a1 a2 a3 a4 a5 fi la B ) ⟨hx, hb, hml, hown, hts⟩ (cwV 0 hts gX0_raise_X0_beginCall rfl rfl rfl (by decide +kernel) ⟨by dsimp only [pq_R]; omega, by dsimp only [pq_R]; omega⟩) pq_bl0 (fun _ _ _ => trivial) hK hP hD hS hA rfl (by decide) rfl (by decide) (by decide) rfl rfl rfl rfl hl.1 rfl (Nat.le_of_ble_eq_true rfl) dX0_raise_1 ⟨by dsimp only [pq_R]; omega, by dsimp only [pq_R]; omega⟩ (fun v w1 H locs hq hP hD hS hz => ?_)
  obtain ⟨rfl, rfl⟩ := hq
  obtain ⟨B_1, hB_1⟩ : ∃ zz, zz = bBegin B := ⟨_, rfl⟩
  rw [← hB_1] at hP hD
  have hP : va_P D vwCl [(h, .inr (0, [.ref a0, .ref a1, .ref a2, .ref a3, .ref a4, .ref a5, .int B_1.2.2.2.2.1, .int B_1.2.2.2.2.2.1, .int B_1.2.2.2.2.2.2])), (a0, .inl (cI, 128, .inl fi)), (a1, .inl (cI, 128, .inl la)), (a2, .inl (cI, 128, .inl B_1.1)), (a3, .inl (cI, 128, .inl B_1.2.1)), (a4, .inl (cI, 128, .inl B_1.2.2.1)), (a5, .inl (cI, 128, .inl B_1.2.2.2.1))] H := hP
  have hD : va_D A [(h, .inr (0, [.ref a0, .ref a1, .ref a2, .ref a3, .ref a4, .ref a5, .int B_1.2.2.2.2.1, .int B_1.2.2.2.2.2.1, .int B_1.2.2.2.2.2.2])), (a0, .inl (cI, 128, .inl fi)), (a1, .inl (cI, 128, .inl la)), (a2, .inl (cI, 128, .inl B_1.1)), (a3, .inl (cI, 128, .inl B_1.2.1)), (a4, .inl (cI, 128, .inl B_1.2.2.1)), (a5, .inl (cI, 128, .inl B_1.2.2.2.1))] := hD
  refine W.eq (g2 := F0 m 4 ls []) rfl ?_
  refine lv_aload_n hx hb dX0_raise_4 rfl (lv_at hl 0 rfl) ?_
  refine lv_iconst (v := 1) hx hb dX0_raise_5 (by decide) ?_
  refine lv_iload_n hx hb dX0_raise_6 rfl (lv_at hl 1 rfl) ?_
  refine lv_iload_n hx hb dX0_raise_7 rfl (lv_at hl 2 rfl) ?_
  refine pq_callV (wr := []) (own := RX0) (nL := 3) (q0 := 0) (ci := 0) [0, 1, 2, 3, 4, 5, 6] [] [.int 1, .int x, .int v0] (mX0_raiseFrom l D cI h a0 a1 a2 a3 a4 a5 fi la x v0 7 B_1 1 (by decide) (by decide)) ⟨hx, hb, hml, hown, hts⟩ (cwV 3 hts gX0_raise_X0_raiseFrom rfl rfl rfl (by decide +kernel) ⟨by dsimp only [pq_R]; omega, by dsimp only [pq_R]; omega⟩) pq_bl0 (fun _ _ _ => trivial) hK hP hD hS hA rfl (by decide) rfl (by decide) (by decide) rfl rfl rfl rfl hl.1 rfl (Nat.le_of_ble_eq_true rfl) dX0_raise_8 ⟨by dsimp only [pq_R]; omega, by dsimp only [pq_R]; omega⟩ (fun v w1 H locs hq hP hD hS hz => ?_)
  obtain ⟨rfl, rfl⟩ := hq
  obtain ⟨B_2, hB_2⟩ : ∃ zz, zz = bRaiseFrom fi la x v0 7 B_1 1 := ⟨_, rfl⟩
  rw [← hB_2] at hP hD
  have hP : va_P D vwCl [(h, .inr (0, [.ref a0, .ref a1, .ref a2, .ref a3, .ref a4, .ref a5, .int B_2.2.2.2.2.1, .int B_2.2.2.2.2.2.1, .int B_2.2.2.2.2.2.2])), (a0, .inl (cI, 128, .inl fi)), (a1, .inl (cI, 128, .inl la)), (a2, .inl (cI, 128, .inl B_2.1)), (a3, .inl (cI, 128, .inl B_2.2.1)), (a4, .inl (cI, 128, .inl B_2.2.2.1)), (a5, .inl (cI, 128, .inl B_2.2.2.2.1))] H := hP
  have hD : va_D A [(h, .inr (0, [.ref a0, .ref a1, .ref a2, .ref a3, .ref a4, .ref a5, .int B_2.2.2.2.2.1, .int B_2.2.2.2.2.2.1, .int B_2.2.2.2.2.2.2])), (a0, .inl (cI, 128, .inl fi)), (a1, .inl (cI, 128, .inl la)), (a2, .inl (cI, 128, .inl B_2.1)), (a3, .inl (cI, 128, .inl B_2.2.1)), (a4, .inl (cI, 128, .inl B_2.2.2.1)), (a5, .inl (cI, 128, .inl B_2.2.2.2.1))] := hD
  refine W.eq (g2 := F0 m 11 ls []) rfl ?_
  exact pq_vret hQ hx hb hr hlocks hK hS hP hD dX0_raise_11 (by omega) (by omega) (⟨rfl, by subst hB_2; subst hB_1; rfl⟩)

set_option maxHeartbeats 4000000 in
set_option maxRecDepth 100000 in
theorem mX0_askSum (l : Launch) (D : va_G) (cI : ClassId) (h a0 a1 a2 a3 a4 a5 : Nat) (fi la : Nat → Int32) (B : BK) (a b : Int32) : pq_M l yX0_askSum wsX0_askSum 12 271 0 0 D [(cI, .int)] pq_0 (bkW h a0 a1 a2 a3 a4 a5 cI fi la B) [.ref h, .int a, .int b] (fun v w1 => v = some (.int (bSumFrom fi la a b 7 (bBegin B) 1).1) ∧ w1 = bkW h a0 a1 a2 a3 a4 a5 cI fi la (bSumFrom fi la a b 7 (bBegin B) 1).2) := by
  refine pq_enter (cc := cX0_askSum) (maxL := 3) (ret := (some .int)) (by decide) rfl (Nat.le_of_ble_eq_true rfl) ?_
  intro p ev s m args below meth cd A ls Q H locs hx hb hr hml hts hown hlocks hnm hK hP hD hS hA hE hl hQ
  have hl : lv_has ls 3 [(0, .ref h), (1, .int a), (2, .int b)] := hl
  have hP : va_P D vwCl [(h, .inr (0, [.ref a0, .ref a1, .ref a2, .ref a3, .ref a4, .ref a5, .int B.2.2.2.2.1, .int B.2.2.2.2.2.1, .int B.2.2.2.2.2.2])), (a0, .inl (cI, 128, .inl fi)), (a1, .inl (cI, 128, .inl la)), (a2, .inl (cI, 128, .inl B.1)), (a3, .inl (cI, 128, .inl B.2.1)), (a4, .inl (cI, 128, .inl B.2.2.1)), (a5, .inl (cI, 128, .inl B.2.2.2.1))] H := hP
  have hD : va_D A [(h, .inr (0, [.ref a0, .ref a1, .ref a2, .ref a3, .ref a4, .ref a5, .int B.2.2.2.2.1, .int B.2.2.2.2.2.1, .int B.2.2.2.2.2.2])), (a0, .inl (cI, 128, .inl fi)), (a1, .inl (cI, 128, .inl la)), (a2, .inl (cI, 128, .inl B.1)), (a3, .inl (cI, 128, .inl B.2.1)), (a4, .inl (cI, 128, .inl B.2.2.1)), (a5, .inl (cI, 128, .inl B.2.2.2.1))] := hD
  refine lv_aload_n hx hb dX0_askSum_0 rfl (lv_at hl 0 rfl) ?_
  refine pq_callV (wr := []) (own := RX0) (nL := 3) (q0 := 0) (ci := 0) [0, 1, 2, 3, 4, 5, 6] [] [] (mX0_beginCall l D cI h a0 a1 a2 a3 a4 a5 fi la B ) ⟨hx, hb, hml, hown, hts⟩ (cwV 0 hts gX0_askSum_X0_beginCall rfl rfl rfl (by decide +kernel) ⟨by dsimp only [pq_R]; omega, by dsimp only [pq_R]; omega⟩) pq_bl0 (fun _ _ _ => trivial) hK hP hD hS hA rfl (by decide) rfl (by decide) (by decide) rfl rfl rfl rfl hl.1 rfl (Nat.le_of_ble_eq_true rfl) dX0_askSum_1 ⟨by dsimp only [pq_R]; omega, by dsimp only [pq_R]; omega⟩ (fun v w1 H locs hq hP hD hS hz => ?_)
  obtain ⟨rfl, rfl⟩ := hq
  obtain ⟨B_1, hB_1⟩ : ∃ zz, zz = bBegin B := ⟨_, rfl⟩
  rw [← hB_1] at hP hD
  have hP : va_P D vwCl [(h, .inr (0, [.ref a0, .ref a1, .ref a2, .ref a3, .ref a4, .ref a5, .int B_1.2.2.2.2.1, .int B_1.2.2.2.2.2.1, .int B_1.2.2.2.2.2.2])), (a0, .inl (cI, 128, .inl fi)), (a1, .inl (cI, 128, .inl la)), (a2, .inl (cI, 128, .inl B_1.1)), (a3, .inl (cI, 128, .inl B_1.2.1)), (a4, .inl (cI, 128, .inl B_1.2.2.1)), (a5, .inl (cI, 128, .inl B_1.2.2.2.1))] H := hP
  have hD : va_D A [(h, .inr (0, [.ref a0, .ref a1, .ref a2, .ref a3, .ref a4, .ref a5, .int B_1.2.2.2.2.1, .int B_1.2.2.2.2.2.1, .int B_1.2.2.2.2.2.2])), (a0, .inl (cI, 128, .inl fi)), (a1, .inl (cI, 128, .inl la)), (a2, .inl (cI, 128, .inl B_1.1)), (a3, .inl (cI, 128, .inl B_1.2.1)), (a4, .inl (cI, 128, .inl B_1.2.2.1)), (a5, .inl (cI, 128, .inl B_1.2.2.2.1))] := hD
  refine W.eq (g2 := F0 m 4 ls []) rfl ?_
  refine lv_aload_n hx hb dX0_askSum_4 rfl (lv_at hl 0 rfl) ?_
  refine lv_iconst (v := 1) hx hb dX0_askSum_5 (by decide) ?_
  refine lv_iload_n hx hb dX0_askSum_6 rfl (lv_at hl 1 rfl) ?_
  refine lv_iload_n hx hb dX0_askSum_7 rfl (lv_at hl 2 rfl) ?_
  refine pq_callV (wr := []) (own := RX0) (nL := 3) (q0 := 0) (ci := 0) [0, 1, 2, 3, 4, 5, 6] [] [.int 1, .int a, .int b] (mX0_sumFrom l D cI h a0 a1 a2 a3 a4 a5 fi la a b 7 B_1 1 (by decide) (by decide)) ⟨hx, hb, hml, hown, hts⟩ (cwV 3 hts gX0_askSum_X0_sumFrom rfl rfl rfl (by decide +kernel) ⟨by dsimp only [pq_R]; omega, by dsimp only [pq_R]; omega⟩) pq_bl0 (fun _ _ _ => trivial) hK hP hD hS hA rfl (by decide) rfl (by decide) (by decide) rfl rfl rfl rfl hl.1 rfl (Nat.le_of_ble_eq_true rfl) dX0_askSum_8 ⟨by dsimp only [pq_R]; omega, by dsimp only [pq_R]; omega⟩ (fun v w1 H locs hq hP hD hS hz => ?_)
  obtain ⟨rfl, rfl⟩ := hq
  obtain ⟨B_2, hB_2⟩ : ∃ zz, zz = (bSumFrom fi la a b 7 B_1 1).2 := ⟨_, rfl⟩
  rw [← hB_2] at hP hD
  have hP : va_P D vwCl [(h, .inr (0, [.ref a0, .ref a1, .ref a2, .ref a3, .ref a4, .ref a5, .int B_2.2.2.2.2.1, .int B_2.2.2.2.2.2.1, .int B_2.2.2.2.2.2.2])), (a0, .inl (cI, 128, .inl fi)), (a1, .inl (cI, 128, .inl la)), (a2, .inl (cI, 128, .inl B_2.1)), (a3, .inl (cI, 128, .inl B_2.2.1)), (a4, .inl (cI, 128, .inl B_2.2.2.1)), (a5, .inl (cI, 128, .inl B_2.2.2.2.1))] H := hP
  have hD : va_D A [(h, .inr (0, [.ref a0, .ref a1, .ref a2, .ref a3, .ref a4, .ref a5, .int B_2.2.2.2.2.1, .int B_2.2.2.2.2.2.1, .int B_2.2.2.2.2.2.2])), (a0, .inl (cI, 128, .inl fi)), (a1, .inl (cI, 128, .inl la)), (a2, .inl (cI, 128, .inl B_2.1)), (a3, .inl (cI, 128, .inl B_2.2.1)), (a4, .inl (cI, 128, .inl B_2.2.2.1)), (a5, .inl (cI, 128, .inl B_2.2.2.2.1))] := hD
  refine W.eq (g2 := F0 m 11 ls [.int ((bSumFrom fi la a b 7 B_1 1).1)]) rfl ?_
  exact pq_iret hQ hx hb hr hlocks hK hS hP hD dX0_askSum_11 (by omega) (by omega) (⟨by subst hB_2; subst hB_1; rfl, by subst hB_2; subst hB_1; rfl⟩)

set_option maxHeartbeats 4000000 in
set_option maxRecDepth 100000 in
theorem mX0_askGreatest (l : Launch) (D : va_G) (cI : ClassId) (h a0 a1 a2 a3 a4 a5 : Nat) (fi la : Nat → Int32) (B : BK) (a b : Int32) : pq_M l yX0_askGreatest wsX0_askGreatest 12 271 0 0 D [(cI, .int)] pq_0 (bkW h a0 a1 a2 a3 a4 a5 cI fi la B) [.ref h, .int a, .int b] (fun v w1 => v = some (.int (bTopFrom fi la a b 7 (bBegin B) 1).1) ∧ w1 = bkW h a0 a1 a2 a3 a4 a5 cI fi la (bTopFrom fi la a b 7 (bBegin B) 1).2) := by
  refine pq_enter (cc := cX0_askGreatest) (maxL := 3) (ret := (some .int)) (by decide) rfl (Nat.le_of_ble_eq_true rfl) ?_
  intro p ev s m args below meth cd A ls Q H locs hx hb hr hml hts hown hlocks hnm hK hP hD hS hA hE hl hQ
  have hl : lv_has ls 3 [(0, .ref h), (1, .int a), (2, .int b)] := hl
  have hP : va_P D vwCl [(h, .inr (0, [.ref a0, .ref a1, .ref a2, .ref a3, .ref a4, .ref a5, .int B.2.2.2.2.1, .int B.2.2.2.2.2.1, .int B.2.2.2.2.2.2])), (a0, .inl (cI, 128, .inl fi)), (a1, .inl (cI, 128, .inl la)), (a2, .inl (cI, 128, .inl B.1)), (a3, .inl (cI, 128, .inl B.2.1)), (a4, .inl (cI, 128, .inl B.2.2.1)), (a5, .inl (cI, 128, .inl B.2.2.2.1))] H := hP
  have hD : va_D A [(h, .inr (0, [.ref a0, .ref a1, .ref a2, .ref a3, .ref a4, .ref a5, .int B.2.2.2.2.1, .int B.2.2.2.2.2.1, .int B.2.2.2.2.2.2])), (a0, .inl (cI, 128, .inl fi)), (a1, .inl (cI, 128, .inl la)), (a2, .inl (cI, 128, .inl B.1)), (a3, .inl (cI, 128, .inl B.2.1)), (a4, .inl (cI, 128, .inl B.2.2.1)), (a5, .inl (cI, 128, .inl B.2.2.2.1))] := hD
  refine lv_aload_n hx hb dX0_askGreatest_0 rfl (lv_at hl 0 rfl) ?_
  refine pq_callV (wr := []) (own := RX0) (nL := 3) (q0 := 0) (ci := 0) [0, 1, 2, 3, 4, 5, 6] [] [] (mX0_beginCall l D cI h a0 a1 a2 a3 a4 a5 fi la B ) ⟨hx, hb, hml, hown, hts⟩ (cwV 0 hts gX0_askGreatest_X0_beginCall rfl rfl rfl (by decide +kernel) ⟨by dsimp only [pq_R]; omega, by dsimp only [pq_R]; omega⟩) pq_bl0 (fun _ _ _ => trivial) hK hP hD hS hA rfl (by decide) rfl (by decide) (by decide) rfl rfl rfl rfl hl.1 rfl (Nat.le_of_ble_eq_true rfl) dX0_askGreatest_1 ⟨by dsimp only [pq_R]; omega, by dsimp only [pq_R]; omega⟩ (fun v w1 H locs hq hP hD hS hz => ?_)
  obtain ⟨rfl, rfl⟩ := hq
  obtain ⟨B_1, hB_1⟩ : ∃ zz, zz = bBegin B := ⟨_, rfl⟩
  rw [← hB_1] at hP hD
  have hP : va_P D vwCl [(h, .inr (0, [.ref a0, .ref a1, .ref a2, .ref a3, .ref a4, .ref a5, .int B_1.2.2.2.2.1, .int B_1.2.2.2.2.2.1, .int B_1.2.2.2.2.2.2])), (a0, .inl (cI, 128, .inl fi)), (a1, .inl (cI, 128, .inl la)), (a2, .inl (cI, 128, .inl B_1.1)), (a3, .inl (cI, 128, .inl B_1.2.1)), (a4, .inl (cI, 128, .inl B_1.2.2.1)), (a5, .inl (cI, 128, .inl B_1.2.2.2.1))] H := hP
  have hD : va_D A [(h, .inr (0, [.ref a0, .ref a1, .ref a2, .ref a3, .ref a4, .ref a5, .int B_1.2.2.2.2.1, .int B_1.2.2.2.2.2.1, .int B_1.2.2.2.2.2.2])), (a0, .inl (cI, 128, .inl fi)), (a1, .inl (cI, 128, .inl la)), (a2, .inl (cI, 128, .inl B_1.1)), (a3, .inl (cI, 128, .inl B_1.2.1)), (a4, .inl (cI, 128, .inl B_1.2.2.1)), (a5, .inl (cI, 128, .inl B_1.2.2.2.1))] := hD
  refine W.eq (g2 := F0 m 4 ls []) rfl ?_
  refine lv_aload_n hx hb dX0_askGreatest_4 rfl (lv_at hl 0 rfl) ?_
  refine lv_iconst (v := 1) hx hb dX0_askGreatest_5 (by decide) ?_
  refine lv_iload_n hx hb dX0_askGreatest_6 rfl (lv_at hl 1 rfl) ?_
  refine lv_iload_n hx hb dX0_askGreatest_7 rfl (lv_at hl 2 rfl) ?_
  refine pq_callV (wr := []) (own := RX0) (nL := 3) (q0 := 0) (ci := 0) [0, 1, 2, 3, 4, 5, 6] [] [.int 1, .int a, .int b] (mX0_greatestFrom l D cI h a0 a1 a2 a3 a4 a5 fi la a b 7 B_1 1 (by decide) (by decide)) ⟨hx, hb, hml, hown, hts⟩ (cwV 3 hts gX0_askGreatest_X0_greatestFrom rfl rfl rfl (by decide +kernel) ⟨by dsimp only [pq_R]; omega, by dsimp only [pq_R]; omega⟩) pq_bl0 (fun _ _ _ => trivial) hK hP hD hS hA rfl (by decide) rfl (by decide) (by decide) rfl rfl rfl rfl hl.1 rfl (Nat.le_of_ble_eq_true rfl) dX0_askGreatest_8 ⟨by dsimp only [pq_R]; omega, by dsimp only [pq_R]; omega⟩ (fun v w1 H locs hq hP hD hS hz => ?_)
  obtain ⟨rfl, rfl⟩ := hq
  obtain ⟨B_2, hB_2⟩ : ∃ zz, zz = (bTopFrom fi la a b 7 B_1 1).2 := ⟨_, rfl⟩
  rw [← hB_2] at hP hD
  have hP : va_P D vwCl [(h, .inr (0, [.ref a0, .ref a1, .ref a2, .ref a3, .ref a4, .ref a5, .int B_2.2.2.2.2.1, .int B_2.2.2.2.2.2.1, .int B_2.2.2.2.2.2.2])), (a0, .inl (cI, 128, .inl fi)), (a1, .inl (cI, 128, .inl la)), (a2, .inl (cI, 128, .inl B_2.1)), (a3, .inl (cI, 128, .inl B_2.2.1)), (a4, .inl (cI, 128, .inl B_2.2.2.1)), (a5, .inl (cI, 128, .inl B_2.2.2.2.1))] H := hP
  have hD : va_D A [(h, .inr (0, [.ref a0, .ref a1, .ref a2, .ref a3, .ref a4, .ref a5, .int B_2.2.2.2.2.1, .int B_2.2.2.2.2.2.1, .int B_2.2.2.2.2.2.2])), (a0, .inl (cI, 128, .inl fi)), (a1, .inl (cI, 128, .inl la)), (a2, .inl (cI, 128, .inl B_2.1)), (a3, .inl (cI, 128, .inl B_2.2.1)), (a4, .inl (cI, 128, .inl B_2.2.2.1)), (a5, .inl (cI, 128, .inl B_2.2.2.2.1))] := hD
  refine W.eq (g2 := F0 m 11 ls [.int ((bTopFrom fi la a b 7 B_1 1).1)]) rfl ?_
  exact pq_iret hQ hx hb hr hlocks hK hS hP hD dX0_askGreatest_11 (by omega) (by omega) (⟨by subst hB_2; subst hB_1; rfl, by subst hB_2; subst hB_1; rfl⟩)

set_option maxHeartbeats 4000000 in
set_option maxRecDepth 100000 in
theorem mX0_leastGreatestOver (l : Launch) (D : va_G) (cI : ClassId) (h a0 a1 a2 a3 a4 a5 : Nat) (fi la : Nat → Int32) (B : BK) (x : Int32) : pq_M l yX0_leastGreatestOver wsX0_leastGreatestOver 1 30 0 0 D [(cI, .int)] pq_0 (bkW h a0 a1 a2 a3 a4 a5 cI fi la B) [.ref h, .int x] (fun v w1 => v = some (.int (bLeast fi la B.1 x 126)) ∧ w1 = bkW h a0 a1 a2 a3 a4 a5 cI fi la B) := by
  refine pq_enter (cc := cX0_leastGreatestOver) (maxL := 4) (ret := (some .int)) (by decide) rfl (Nat.le_of_ble_eq_true rfl) ?_
  intro p ev s m args below meth cd A ls Q H locs hx hb hr hml hts hown hlocks hnm hK hP hD hS hA hE hl hQ
  have hl : lv_has ls 4 [(0, .ref h), (1, .int x)] := hl
  have hP : va_P D vwCl [(h, .inr (0, [.ref a0, .ref a1, .ref a2, .ref a3, .ref a4, .ref a5, .int B.2.2.2.2.1, .int B.2.2.2.2.2.1, .int B.2.2.2.2.2.2])), (a0, .inl (cI, 128, .inl fi)), (a1, .inl (cI, 128, .inl la)), (a2, .inl (cI, 128, .inl B.1)), (a3, .inl (cI, 128, .inl B.2.1)), (a4, .inl (cI, 128, .inl B.2.2.1)), (a5, .inl (cI, 128, .inl B.2.2.2.1))] H := hP
  have hD : va_D A [(h, .inr (0, [.ref a0, .ref a1, .ref a2, .ref a3, .ref a4, .ref a5, .int B.2.2.2.2.1, .int B.2.2.2.2.2.1, .int B.2.2.2.2.2.2])), (a0, .inl (cI, 128, .inl fi)), (a1, .inl (cI, 128, .inl la)), (a2, .inl (cI, 128, .inl B.1)), (a3, .inl (cI, 128, .inl B.2.1)), (a4, .inl (cI, 128, .inl B.2.2.1)), (a5, .inl (cI, 128, .inl B.2.2.2.1))] := hD
  have hin_X0 : ∀ w ∈ wsX00, w ∈ wsX0_leastGreatestOver := by decide +kernel
  have hf_PressedPlains_Book_18 := hts (.fieldLink RX0 18 "PressedPlains$Book" "greatest" "[I") (by decide +kernel)
  have hm1_min73 := hts (.methodLink RX0 73 Lib.Math.min.name) (by decide +kernel)
  have hm2_min := hts (.static Lib.Math.min.name) (by decide +kernel)
  have hm3 := hts (.initialized "java/lang/Math") (by decide +kernel)
  have hm4_min := hts (.code Lib.Math.min.name Lib.Math.min.code 2 (some .int)) (by decide +kernel)
  refine lv_aload_n hx hb dX0_leastGreatestOver_0 rfl (lv_at hl 0 rfl) ?_
  refine va_get (D := D) (ci := 0) (v := .ref a2) (C := RX0) (T := TX0) (N := 9) hx hb hts hin_X0 hown hK hP 0 rfl rfl 2 (by decide) hf_PressedPlains_Book_18 (fun _ h9 => h9) rfl dX0_leastGreatestOver_1 ?_
  refine lv_iconst (v := 1) hx hb dX0_leastGreatestOver_4 (by decide) ?_
  refine pq_iald hx hb hK hP 3 0 rfl rfl 1 (by omega) (by decide) dX0_leastGreatestOver_5 ?_
  refine lv_istore_n (lv' := [(2, .int (B.1 1)), (0, .ref h), (1, .int x)]) hx hb dX0_leastGreatestOver_6 rfl hl (by decide) rfl (fun ls hl => ?_)
  refine lv_iconst (v := 2) hx hb dX0_leastGreatestOver_7 (by decide) ?_
  refine lv_istore_n (lv' := [(3, .int 2), (2, .int (B.1 1)), (0, .ref h), (1, .int x)]) hx hb dX0_leastGreatestOver_8 rfl hl (by decide) rfl (fun ls hl => ?_)
  have LP : ∀ (n : Nat) (kk : Nat) (r : Int32), 128 - kk < n → 2 ≤ kk → kk ≤ 128 → r = bLeast fi la B.1 x (kk - 2) → ∀ (H : Heap) (locs : List Loc) (ls : Array Slot), va_P D vwCl [(h, .inr (0, [.ref a0, .ref a1, .ref a2, .ref a3, .ref a4, .ref a5, .int B.2.2.2.2.1, .int B.2.2.2.2.2.1, .int B.2.2.2.2.2.2])), (a0, .inl (cI, 128, .inl fi)), (a1, .inl (cI, 128, .inl la)), (a2, .inl (cI, 128, .inl B.1)), (a3, .inl (cI, 128, .inl B.2.1)), (a4, .inl (cI, 128, .inl B.2.2.1)), (a5, .inl (cI, 128, .inl B.2.2.2.1))] H → va_D A [(h, .inr (0, [.ref a0, .ref a1, .ref a2, .ref a3, .ref a4, .ref a5, .int B.2.2.2.2.1, .int B.2.2.2.2.2.1, .int B.2.2.2.2.2.2])), (a0, .inl (cI, 128, .inl fi)), (a1, .inl (cI, 128, .inl la)), (a2, .inl (cI, 128, .inl B.1)), (a3, .inl (cI, 128, .inl B.2.1)), (a4, .inl (cI, 128, .inl B.2.2.1)), (a5, .inl (cI, 128, .inl B.2.2.2.1))] → va_S A s.heap H locs → lv_has ls 4 [(3, .int (nI kk)), (2, .int r), (0, .ref h), (1, .int x)] → W p l ev (pq_R 1 30 0 0) s m args below meth cd H locs 0 0 Q (F0 m 9 ls []) := by
    intro n
    induction n with
    | zero => intro kk r h1; exact absurd h1 (Nat.not_lt_zero _)
    | succ n ihLP =>
      intro kk r hmeas h2 h3 hrr H locs ls hP hD hS hl
      refine lv_iload_n hx hb dX0_leastGreatestOver_9 rfl (lv_at hl 0 rfl) ?_
      refine lv_sipush (v := 128) hx hb dX0_leastGreatestOver_10 (by decide) ?_
      rcases Nat.lt_or_ge kk 128 with k_1 | k_1
      · refine lv_icmp_ge (tgt := 51) hx hb dX0_leastGreatestOver_13 (by decide) (fun c9 => absurd c9 ((nI_ge (a := kk) (b := 128) k_1 (by omega)))) (fun _ => ?_)
        refine lv_aload_n hx hb dX0_leastGreatestOver_16 rfl (lv_at hl 2 rfl) ?_
        refine lv_iload_n hx hb dX0_leastGreatestOver_17 rfl (lv_at hl 0 rfl) ?_
        refine pq_callV (wr := []) (own := RX0) (nL := 4) (q0 := 0) (ci := 0) [0, 1, 2, 3, 4, 5, 6] [] [.int (nI kk)] (mX0_has l D cI h a0 a1 a2 a3 a4 a5 fi la B (nI kk)) ⟨hx, hb, hml, hown, hts⟩ (cwV 1 hts gX0_leastGreatestOver_X0_has rfl rfl rfl (by decide +kernel) ⟨by dsimp only [pq_R]; omega, by dsimp only [pq_R]; omega⟩) pq_bl0 (fun _ _ _ => trivial) hK hP hD hS hA rfl (by decide) rfl (by decide) (by decide) rfl rfl rfl rfl hl.1 rfl (Nat.le_of_ble_eq_true rfl) dX0_leastGreatestOver_18 ⟨by dsimp only [pq_R]; omega, by dsimp only [pq_R]; omega⟩ (fun v w1 H locs hq hP hD hS hz => ?_)
        obtain ⟨rfl, rfl⟩ := hq
        have hP : va_P D vwCl [(h, .inr (0, [.ref a0, .ref a1, .ref a2, .ref a3, .ref a4, .ref a5, .int B.2.2.2.2.1, .int B.2.2.2.2.2.1, .int B.2.2.2.2.2.2])), (a0, .inl (cI, 128, .inl fi)), (a1, .inl (cI, 128, .inl la)), (a2, .inl (cI, 128, .inl B.1)), (a3, .inl (cI, 128, .inl B.2.1)), (a4, .inl (cI, 128, .inl B.2.2.1)), (a5, .inl (cI, 128, .inl B.2.2.2.1))] H := hP
        have hD : va_D A [(h, .inr (0, [.ref a0, .ref a1, .ref a2, .ref a3, .ref a4, .ref a5, .int B.2.2.2.2.1, .int B.2.2.2.2.2.1, .int B.2.2.2.2.2.2])), (a0, .inl (cI, 128, .inl fi)), (a1, .inl (cI, 128, .inl la)), (a2, .inl (cI, 128, .inl B.1)), (a3, .inl (cI, 128, .inl B.2.1)), (a4, .inl (cI, 128, .inl B.2.2.1)), (a5, .inl (cI, 128, .inl B.2.2.2.1))] := hD
        by_cases b_2 : bHas la (nI kk)
        · rw [if_pos b_2]
          refine W.eq (g2 := F0 m 21 ls [.int 1]) rfl ?_
          refine lv_if_eq (tgt := 45) hx hb dX0_leastGreatestOver_21 (by decide) (fun c9 => absurd c9 (by decide)) (fun _ => ?_)
          refine lv_aload_n hx hb dX0_leastGreatestOver_24 rfl (lv_at hl 2 rfl) ?_
          refine lv_iload_n hx hb dX0_leastGreatestOver_25 rfl (lv_at hl 0 rfl) ?_
          refine lv_iload_n hx hb dX0_leastGreatestOver_26 rfl (lv_at hl 3 rfl) ?_
          refine lv_iload_n hx hb dX0_leastGreatestOver_27 rfl (lv_at hl 3 rfl) ?_
          refine pq_callV (wr := []) (own := RX0) (nL := 4) (q0 := 0) (ci := 0) [0, 1, 2, 3, 4, 5, 6] [] [.int (nI kk), .int x, .int x] (mX0_isApart l D cI h a0 a1 a2 a3 a4 a5 fi la B kk x x (by omega)) ⟨hx, hb, hml, hown, hts⟩ (cwV 3 hts gX0_leastGreatestOver_X0_isApart rfl rfl rfl (by decide +kernel) ⟨by dsimp only [pq_R]; omega, by dsimp only [pq_R]; omega⟩) pq_bl0 (fun _ _ _ => trivial) hK hP hD hS hA rfl (by decide) rfl (by decide) (by decide) rfl rfl rfl rfl hl.1 rfl (Nat.le_of_ble_eq_true rfl) dX0_leastGreatestOver_28 ⟨by dsimp only [pq_R]; omega, by dsimp only [pq_R]; omega⟩ (fun v w1 H locs hq hP hD hS hz => ?_)
          obtain ⟨rfl, rfl⟩ := hq
          have hP : va_P D vwCl [(h, .inr (0, [.ref a0, .ref a1, .ref a2, .ref a3, .ref a4, .ref a5, .int B.2.2.2.2.1, .int B.2.2.2.2.2.1, .int B.2.2.2.2.2.2])), (a0, .inl (cI, 128, .inl fi)), (a1, .inl (cI, 128, .inl la)), (a2, .inl (cI, 128, .inl B.1)), (a3, .inl (cI, 128, .inl B.2.1)), (a4, .inl (cI, 128, .inl B.2.2.1)), (a5, .inl (cI, 128, .inl B.2.2.2.1))] H := hP
          have hD : va_D A [(h, .inr (0, [.ref a0, .ref a1, .ref a2, .ref a3, .ref a4, .ref a5, .int B.2.2.2.2.1, .int B.2.2.2.2.2.1, .int B.2.2.2.2.2.2])), (a0, .inl (cI, 128, .inl fi)), (a1, .inl (cI, 128, .inl la)), (a2, .inl (cI, 128, .inl B.1)), (a3, .inl (cI, 128, .inl B.2.1)), (a4, .inl (cI, 128, .inl B.2.2.1)), (a5, .inl (cI, 128, .inl B.2.2.2.1))] := hD
          by_cases b_3 : bAp fi la kk x x
          · rw [if_pos b_3]
            refine W.eq (g2 := F0 m 31 ls [.int 1]) rfl ?_
            refine lv_if_ne (tgt := 45) hx hb dX0_leastGreatestOver_31 (by decide) (fun _ => ?_) (fun c9 => absurd c9 (by decide))
            refine lv_iinc (v := nI (kk + 1)) (lv' := [(3, .int (nI (kk + 1))), (2, .int r), (0, .ref h), (1, .int x)]) hx hb dX0_leastGreatestOver_45 hl (k := 0) rfl (nI_add _ 1) (by decide) rfl (fun ls hl => ?_)
            refine lv_goto (tgt := 9) hx hb dX0_leastGreatestOver_48 (by decide) ?_
            exact ihLP (kk + 1) r (by omega) (by omega) (by omega) (by rw [bLeast_s _ _ _ _ h2, if_neg (fun h => h.2 b_3), ← hrr]) H locs ls hP hD hS (lv_sub hl [0, 1, 2, 3] rfl)
          · rw [if_neg b_3]
            refine W.eq (g2 := F0 m 31 ls [.int 0]) rfl ?_
            refine lv_if_ne (tgt := 45) hx hb dX0_leastGreatestOver_31 (by decide) (fun c9 => absurd c9 (by decide)) (fun _ => ?_)
            refine lv_iload_n hx hb dX0_leastGreatestOver_34 rfl (lv_at hl 1 rfl) ?_
            refine lv_aload_n hx hb dX0_leastGreatestOver_35 rfl (lv_at hl 2 rfl) ?_
            refine va_get (D := D) (ci := 0) (v := .ref a2) (C := RX0) (T := TX0) (N := 9) hx hb hts hin_X0 hown hK hP 0 rfl rfl 2 (by decide) hf_PressedPlains_Book_18 (fun _ h9 => h9) rfl dX0_leastGreatestOver_36 ?_
            refine lv_iload_n hx hb dX0_leastGreatestOver_39 rfl (lv_at hl 0 rfl) ?_
            refine pq_iald hx hb hK hP 3 0 rfl rfl kk (by omega) (by decide) dX0_leastGreatestOver_40 ?_
            refine va_mmin hx hb (hml.trans hl.1.symm) hown hm1_min73 hm2_min hm3 hm4_min (by first | exact Nat.le_of_ble_eq_true rfl | (dsimp only [pq_R]; omega)) (by first | exact Nat.le_of_ble_eq_true rfl | (simp only [List.map_nil, List.map_cons, List.sum_nil, List.sum_cons, pq_R, Value.category]; omega)) (Nat.le_of_ble_eq_true rfl) (Nat.le_of_ble_eq_true rfl) dX0_leastGreatestOver_41 ?_
            refine pq_top (bMin r (B.1 kk)) rfl ?_
            refine lv_istore_n (lv' := [(2, .int (bMin r (B.1 kk))), (3, .int (nI kk)), (0, .ref h), (1, .int x)]) hx hb dX0_leastGreatestOver_44 rfl hl (by decide) rfl (fun ls hl => ?_)
            refine lv_iinc (v := nI (kk + 1)) (lv' := [(3, .int (nI (kk + 1))), (2, .int (bMin r (B.1 kk))), (0, .ref h), (1, .int x)]) hx hb dX0_leastGreatestOver_45 hl (k := 1) rfl (nI_add _ 1) (by decide) rfl (fun ls hl => ?_)
            refine lv_goto (tgt := 9) hx hb dX0_leastGreatestOver_48 (by decide) ?_
            exact ihLP (kk + 1) (bMin r (B.1 kk)) (by omega) (by omega) (by omega) (by rw [bLeast_s _ _ _ _ h2, if_pos ⟨b_2, b_3⟩, ← hrr]) H locs ls hP hD hS (lv_sub hl [0, 1, 2, 3] rfl)
        · rw [if_neg b_2]
          refine W.eq (g2 := F0 m 21 ls [.int 0]) rfl ?_
          refine lv_if_eq (tgt := 45) hx hb dX0_leastGreatestOver_21 (by decide) (fun _ => ?_) (fun c9 => absurd c9 (by decide))
          refine lv_iinc (v := nI (kk + 1)) (lv' := [(3, .int (nI (kk + 1))), (2, .int r), (0, .ref h), (1, .int x)]) hx hb dX0_leastGreatestOver_45 hl (k := 0) rfl (nI_add _ 1) (by decide) rfl (fun ls hl => ?_)
          refine lv_goto (tgt := 9) hx hb dX0_leastGreatestOver_48 (by decide) ?_
          exact ihLP (kk + 1) r (by omega) (by omega) (by omega) (by rw [bLeast_s _ _ _ _ h2, if_neg (fun h => b_2 h.1), ← hrr]) H locs ls hP hD hS (lv_sub hl [0, 1, 2, 3] rfl)
      · refine lv_icmp_ge (tgt := 51) hx hb dX0_leastGreatestOver_13 (by decide) (fun _ => ?_) (fun c9 => absurd ((nI_le (a := 128) (b := kk) k_1 (by omega))) c9)
        refine lv_iload_n hx hb dX0_leastGreatestOver_51 rfl (lv_at hl 1 rfl) ?_
        exact pq_iret hQ hx hb hr hlocks hK hS hP hD dX0_leastGreatestOver_52 (by omega) (by omega) (⟨by rw [hrr, show kk - 2 = 126 by omega], rfl⟩)
  exact LP _ 2 (B.1 1) (Nat.lt_succ_self _) (by decide) (by decide) rfl H locs ls hP hD hS (lv_sub hl [0, 1, 2, 3] rfl)

set_option maxHeartbeats 4000000 in
set_option maxRecDepth 100000 in
theorem mX0_countLagging (l : Launch) (D : va_G) (cI : ClassId) (h a0 a1 a2 a3 a4 a5 : Nat) (fi la : Nat → Int32) (B : BK) : pq_M l yX0_countLagging wsX0_countLagging 1 21 0 0 D [(cI, .int)] pq_0 (bkW h a0 a1 a2 a3 a4 a5 cI fi la B) [.ref h] (fun v w1 => v = some (.int (bLags la B 126)) ∧ w1 = bkW h a0 a1 a2 a3 a4 a5 cI fi la B) := by
  refine pq_enter (cc := cX0_countLagging) (maxL := 3) (ret := (some .int)) (by decide) rfl (Nat.le_of_ble_eq_true rfl) ?_
  intro p ev s m args below meth cd A ls Q H locs hx hb hr hml hts hown hlocks hnm hK hP hD hS hA hE hl hQ
  have hl : lv_has ls 3 [(0, .ref h)] := hl
  have hP : va_P D vwCl [(h, .inr (0, [.ref a0, .ref a1, .ref a2, .ref a3, .ref a4, .ref a5, .int B.2.2.2.2.1, .int B.2.2.2.2.2.1, .int B.2.2.2.2.2.2])), (a0, .inl (cI, 128, .inl fi)), (a1, .inl (cI, 128, .inl la)), (a2, .inl (cI, 128, .inl B.1)), (a3, .inl (cI, 128, .inl B.2.1)), (a4, .inl (cI, 128, .inl B.2.2.1)), (a5, .inl (cI, 128, .inl B.2.2.2.1))] H := hP
  have hD : va_D A [(h, .inr (0, [.ref a0, .ref a1, .ref a2, .ref a3, .ref a4, .ref a5, .int B.2.2.2.2.1, .int B.2.2.2.2.2.1, .int B.2.2.2.2.2.2])), (a0, .inl (cI, 128, .inl fi)), (a1, .inl (cI, 128, .inl la)), (a2, .inl (cI, 128, .inl B.1)), (a3, .inl (cI, 128, .inl B.2.1)), (a4, .inl (cI, 128, .inl B.2.2.1)), (a5, .inl (cI, 128, .inl B.2.2.2.1))] := hD
  refine lv_iconst (v := 0) hx hb dX0_countLagging_0 (by decide) ?_
  refine lv_istore_n (lv' := [(1, .int 0), (0, .ref h)]) hx hb dX0_countLagging_1 rfl hl (by decide) rfl (fun ls hl => ?_)
  refine lv_iconst (v := 2) hx hb dX0_countLagging_2 (by decide) ?_
  refine lv_istore_n (lv' := [(2, .int 2), (1, .int 0), (0, .ref h)]) hx hb dX0_countLagging_3 rfl hl (by decide) rfl (fun ls hl => ?_)
  have LP : ∀ (n : Nat) (kk : Nat) (r : Int32), 128 - kk < n → 2 ≤ kk → kk ≤ 128 → r = bLags la B (kk - 2) → ∀ (H : Heap) (locs : List Loc) (ls : Array Slot), va_P D vwCl [(h, .inr (0, [.ref a0, .ref a1, .ref a2, .ref a3, .ref a4, .ref a5, .int B.2.2.2.2.1, .int B.2.2.2.2.2.1, .int B.2.2.2.2.2.2])), (a0, .inl (cI, 128, .inl fi)), (a1, .inl (cI, 128, .inl la)), (a2, .inl (cI, 128, .inl B.1)), (a3, .inl (cI, 128, .inl B.2.1)), (a4, .inl (cI, 128, .inl B.2.2.1)), (a5, .inl (cI, 128, .inl B.2.2.2.1))] H → va_D A [(h, .inr (0, [.ref a0, .ref a1, .ref a2, .ref a3, .ref a4, .ref a5, .int B.2.2.2.2.1, .int B.2.2.2.2.2.1, .int B.2.2.2.2.2.2])), (a0, .inl (cI, 128, .inl fi)), (a1, .inl (cI, 128, .inl la)), (a2, .inl (cI, 128, .inl B.1)), (a3, .inl (cI, 128, .inl B.2.1)), (a4, .inl (cI, 128, .inl B.2.2.1)), (a5, .inl (cI, 128, .inl B.2.2.2.1))] → va_S A s.heap H locs → lv_has ls 3 [(2, .int (nI kk)), (1, .int r), (0, .ref h)] → W p l ev (pq_R 1 21 0 0) s m args below meth cd H locs 0 0 Q (F0 m 4 ls []) := by
    intro n
    induction n with
    | zero => intro kk r h1; exact absurd h1 (Nat.not_lt_zero _)
    | succ n ihLP =>
      intro kk r hmeas h2 h3 hrr H locs ls hP hD hS hl
      refine lv_iload_n hx hb dX0_countLagging_4 rfl (lv_at hl 0 rfl) ?_
      refine lv_sipush (v := 128) hx hb dX0_countLagging_5 (by decide) ?_
      rcases Nat.lt_or_ge kk 128 with k_1 | k_1
      · refine lv_icmp_ge (tgt := 36) hx hb dX0_countLagging_8 (by decide) (fun c9 => absurd c9 ((nI_ge (a := kk) (b := 128) k_1 (by omega)))) (fun _ => ?_)
        refine lv_aload_n hx hb dX0_countLagging_11 rfl (lv_at hl 2 rfl) ?_
        refine lv_iload_n hx hb dX0_countLagging_12 rfl (lv_at hl 0 rfl) ?_
        refine pq_callV (wr := []) (own := RX0) (nL := 3) (q0 := 0) (ci := 0) [0, 1, 2, 3, 4, 5, 6] [] [.int (nI kk)] (mX0_has l D cI h a0 a1 a2 a3 a4 a5 fi la B (nI kk)) ⟨hx, hb, hml, hown, hts⟩ (cwV 1 hts gX0_countLagging_X0_has rfl rfl rfl (by decide +kernel) ⟨by dsimp only [pq_R]; omega, by dsimp only [pq_R]; omega⟩) pq_bl0 (fun _ _ _ => trivial) hK hP hD hS hA rfl (by decide) rfl (by decide) (by decide) rfl rfl rfl rfl hl.1 rfl (Nat.le_of_ble_eq_true rfl) dX0_countLagging_13 ⟨by dsimp only [pq_R]; omega, by dsimp only [pq_R]; omega⟩ (fun v w1 H locs hq hP hD hS hz => ?_)
        obtain ⟨rfl, rfl⟩ := hq
        have hP : va_P D vwCl [(h, .inr (0, [.ref a0, .ref a1, .ref a2, .ref a3, .ref a4, .ref a5, .int B.2.2.2.2.1, .int B.2.2.2.2.2.1, .int B.2.2.2.2.2.2])), (a0, .inl (cI, 128, .inl fi)), (a1, .inl (cI, 128, .inl la)), (a2, .inl (cI, 128, .inl B.1)), (a3, .inl (cI, 128, .inl B.2.1)), (a4, .inl (cI, 128, .inl B.2.2.1)), (a5, .inl (cI, 128, .inl B.2.2.2.1))] H := hP
        have hD : va_D A [(h, .inr (0, [.ref a0, .ref a1, .ref a2, .ref a3, .ref a4, .ref a5, .int B.2.2.2.2.1, .int B.2.2.2.2.2.1, .int B.2.2.2.2.2.2])), (a0, .inl (cI, 128, .inl fi)), (a1, .inl (cI, 128, .inl la)), (a2, .inl (cI, 128, .inl B.1)), (a3, .inl (cI, 128, .inl B.2.1)), (a4, .inl (cI, 128, .inl B.2.2.1)), (a5, .inl (cI, 128, .inl B.2.2.2.1))] := hD
        by_cases b_2 : bHas la (nI kk)
        · rw [if_pos b_2]
          refine W.eq (g2 := F0 m 16 ls [.int 1]) rfl ?_
          refine lv_if_eq (tgt := 30) hx hb dX0_countLagging_16 (by decide) (fun c9 => absurd c9 (by decide)) (fun _ => ?_)
          refine lv_aload_n hx hb dX0_countLagging_19 rfl (lv_at hl 2 rfl) ?_
          refine lv_iload_n hx hb dX0_countLagging_20 rfl (lv_at hl 0 rfl) ?_
          refine pq_callV (wr := []) (own := RX0) (nL := 3) (q0 := 0) (ci := 0) [0, 1, 2, 3, 4, 5, 6] [] [.int (nI kk)] (mX0_lags l D cI h a0 a1 a2 a3 a4 a5 fi la B kk (by omega)) ⟨hx, hb, hml, hown, hts⟩ (cwV 1 hts gX0_countLagging_X0_lags rfl rfl rfl (by decide +kernel) ⟨by dsimp only [pq_R]; omega, by dsimp only [pq_R]; omega⟩) pq_bl0 (fun _ _ _ => trivial) hK hP hD hS hA rfl (by decide) rfl (by decide) (by decide) rfl rfl rfl rfl hl.1 rfl (Nat.le_of_ble_eq_true rfl) dX0_countLagging_21 ⟨by dsimp only [pq_R]; omega, by dsimp only [pq_R]; omega⟩ (fun v w1 H locs hq hP hD hS hz => ?_)
          obtain ⟨rfl, rfl⟩ := hq
          have hP : va_P D vwCl [(h, .inr (0, [.ref a0, .ref a1, .ref a2, .ref a3, .ref a4, .ref a5, .int B.2.2.2.2.1, .int B.2.2.2.2.2.1, .int B.2.2.2.2.2.2])), (a0, .inl (cI, 128, .inl fi)), (a1, .inl (cI, 128, .inl la)), (a2, .inl (cI, 128, .inl B.1)), (a3, .inl (cI, 128, .inl B.2.1)), (a4, .inl (cI, 128, .inl B.2.2.1)), (a5, .inl (cI, 128, .inl B.2.2.2.1))] H := hP
          have hD : va_D A [(h, .inr (0, [.ref a0, .ref a1, .ref a2, .ref a3, .ref a4, .ref a5, .int B.2.2.2.2.1, .int B.2.2.2.2.2.1, .int B.2.2.2.2.2.2])), (a0, .inl (cI, 128, .inl fi)), (a1, .inl (cI, 128, .inl la)), (a2, .inl (cI, 128, .inl B.1)), (a3, .inl (cI, 128, .inl B.2.1)), (a4, .inl (cI, 128, .inl B.2.2.1)), (a5, .inl (cI, 128, .inl B.2.2.2.1))] := hD
          by_cases b_3 : bLag B kk
          · rw [if_pos b_3]
            refine W.eq (g2 := F0 m 24 ls [.int 1]) rfl ?_
            refine lv_if_eq (tgt := 30) hx hb dX0_countLagging_24 (by decide) (fun c9 => absurd c9 (by decide)) (fun _ => ?_)
            refine lv_iinc (v := r + 1) (lv' := [(1, .int (r + 1)), (2, .int (nI kk)), (0, .ref h)]) hx hb dX0_countLagging_27 hl (k := 1) rfl (rfl) (by decide) rfl (fun ls hl => ?_)
            refine lv_iinc (v := nI (kk + 1)) (lv' := [(2, .int (nI (kk + 1))), (1, .int (r + 1)), (0, .ref h)]) hx hb dX0_countLagging_30 hl (k := 1) rfl (nI_add _ 1) (by decide) rfl (fun ls hl => ?_)
            refine lv_goto (tgt := 4) hx hb dX0_countLagging_33 (by decide) ?_
            exact ihLP (kk + 1) (r + 1) (by omega) (by omega) (by omega) (by rw [bLags_s _ _ h2, if_pos ⟨b_2, b_3⟩, ← hrr]) H locs ls hP hD hS (lv_sub hl [0, 1, 2] rfl)
          · rw [if_neg b_3]
            refine W.eq (g2 := F0 m 24 ls [.int 0]) rfl ?_
            refine lv_if_eq (tgt := 30) hx hb dX0_countLagging_24 (by decide) (fun _ => ?_) (fun c9 => absurd c9 (by decide))
            refine lv_iinc (v := nI (kk + 1)) (lv' := [(2, .int (nI (kk + 1))), (1, .int r), (0, .ref h)]) hx hb dX0_countLagging_30 hl (k := 0) rfl (nI_add _ 1) (by decide) rfl (fun ls hl => ?_)
            refine lv_goto (tgt := 4) hx hb dX0_countLagging_33 (by decide) ?_
            exact ihLP (kk + 1) r (by omega) (by omega) (by omega) (by rw [bLags_s _ _ h2, if_neg (fun h => b_3 h.2), ← hrr]) H locs ls hP hD hS (lv_sub hl [0, 1, 2] rfl)
        · rw [if_neg b_2]
          refine W.eq (g2 := F0 m 16 ls [.int 0]) rfl ?_
          refine lv_if_eq (tgt := 30) hx hb dX0_countLagging_16 (by decide) (fun _ => ?_) (fun c9 => absurd c9 (by decide))
          refine lv_iinc (v := nI (kk + 1)) (lv' := [(2, .int (nI (kk + 1))), (1, .int r), (0, .ref h)]) hx hb dX0_countLagging_30 hl (k := 0) rfl (nI_add _ 1) (by decide) rfl (fun ls hl => ?_)
          refine lv_goto (tgt := 4) hx hb dX0_countLagging_33 (by decide) ?_
          exact ihLP (kk + 1) r (by omega) (by omega) (by omega) (by rw [bLags_s _ _ h2, if_neg (fun h => b_2 h.1), ← hrr]) H locs ls hP hD hS (lv_sub hl [0, 1, 2] rfl)
      · refine lv_icmp_ge (tgt := 36) hx hb dX0_countLagging_8 (by decide) (fun _ => ?_) (fun c9 => absurd ((nI_le (a := 128) (b := kk) k_1 (by omega))) c9)
        refine lv_iload_n hx hb dX0_countLagging_36 rfl (lv_at hl 1 rfl) ?_
        exact pq_iret hQ hx hb hr hlocks hK hS hP hD dX0_countLagging_37 (by omega) (by omega) (⟨by rw [hrr, show kk - 2 = 126 by omega], rfl⟩)
  exact LP _ 2 0 (Nat.lt_succ_self _) (by decide) (by decide) rfl H locs ls hP hD hS (lv_sub hl [0, 1, 2] rfl)

set_option maxHeartbeats 4000000 in
set_option maxRecDepth 100000 in
theorem mX0_setSpan (l : Launch) (D : va_G) (cI : ClassId) (h a0 a1 a2 a3 a4 a5 : Nat) (fi la : Nat → Int32) (B : BK) (e : Nat) (f0 t0 : Int32) (he : e < 128) : pq_M l yX0_setSpan wsX0_setSpan 0 0 0 0 D [(cI, .int)] pq_0 (bkW h a0 a1 a2 a3 a4 a5 cI fi la B) [.ref h, .int (nI e), .int f0, .int t0] (fun v w1 => v = none ∧ w1 = bkW h a0 a1 a2 a3 a4 a5 cI (upd fi e f0) (upd la e t0) B) := by
  refine pq_enter (cc := cX0_setSpan) (maxL := 4) (ret := none) (by decide) rfl (Nat.le_of_ble_eq_true rfl) ?_
  intro p ev s m args below meth cd A ls Q H locs hx hb hr hml hts hown hlocks hnm hK hP hD hS hA hE hl hQ
  have hl : lv_has ls 4 [(0, .ref h), (1, .int (nI e)), (2, .int f0), (3, .int t0)] := hl
  have hP : va_P D vwCl [(h, .inr (0, [.ref a0, .ref a1, .ref a2, .ref a3, .ref a4, .ref a5, .int B.2.2.2.2.1, .int B.2.2.2.2.2.1, .int B.2.2.2.2.2.2])), (a0, .inl (cI, 128, .inl fi)), (a1, .inl (cI, 128, .inl la)), (a2, .inl (cI, 128, .inl B.1)), (a3, .inl (cI, 128, .inl B.2.1)), (a4, .inl (cI, 128, .inl B.2.2.1)), (a5, .inl (cI, 128, .inl B.2.2.2.1))] H := hP
  have hD : va_D A [(h, .inr (0, [.ref a0, .ref a1, .ref a2, .ref a3, .ref a4, .ref a5, .int B.2.2.2.2.1, .int B.2.2.2.2.2.1, .int B.2.2.2.2.2.2])), (a0, .inl (cI, 128, .inl fi)), (a1, .inl (cI, 128, .inl la)), (a2, .inl (cI, 128, .inl B.1)), (a3, .inl (cI, 128, .inl B.2.1)), (a4, .inl (cI, 128, .inl B.2.2.1)), (a5, .inl (cI, 128, .inl B.2.2.2.1))] := hD
  have hin_X0 : ∀ w ∈ wsX00, w ∈ wsX0_setSpan := by decide +kernel
  have hf_PressedPlains_Book_11 := hts (.fieldLink RX0 11 "PressedPlains$Book" "first" "[I") (by decide +kernel)
  have hf_PressedPlains_Book_15 := hts (.fieldLink RX0 15 "PressedPlains$Book" "last" "[I") (by decide +kernel)
  refine lv_aload_n hx hb dX0_setSpan_0 rfl (lv_at hl 0 rfl) ?_
  refine va_get (D := D) (ci := 0) (v := .ref a0) (C := RX0) (T := TX0) (N := 9) hx hb hts hin_X0 hown hK hP 0 rfl rfl 0 (by decide) hf_PressedPlains_Book_11 (fun _ h9 => h9) rfl dX0_setSpan_1 ?_
  refine lv_iload_n hx hb dX0_setSpan_4 rfl (lv_at hl 1 rfl) ?_
  refine lv_iload_n hx hb dX0_setSpan_5 rfl (lv_at hl 2 rfl) ?_
  refine pq_iast hx hb hK hP hD hS 1 0 rfl rfl e (by omega) (by decide) dX0_setSpan_6 (fun H locs hP hD hS => ?_)
  have hP : va_P D vwCl [(h, .inr (0, [.ref a0, .ref a1, .ref a2, .ref a3, .ref a4, .ref a5, .int B.2.2.2.2.1, .int B.2.2.2.2.2.1, .int B.2.2.2.2.2.2])), (a0, .inl (cI, 128, .inl (upd fi e f0))), (a1, .inl (cI, 128, .inl la)), (a2, .inl (cI, 128, .inl B.1)), (a3, .inl (cI, 128, .inl B.2.1)), (a4, .inl (cI, 128, .inl B.2.2.1)), (a5, .inl (cI, 128, .inl B.2.2.2.1))] H := hP
  have hD : va_D A [(h, .inr (0, [.ref a0, .ref a1, .ref a2, .ref a3, .ref a4, .ref a5, .int B.2.2.2.2.1, .int B.2.2.2.2.2.1, .int B.2.2.2.2.2.2])), (a0, .inl (cI, 128, .inl (upd fi e f0))), (a1, .inl (cI, 128, .inl la)), (a2, .inl (cI, 128, .inl B.1)), (a3, .inl (cI, 128, .inl B.2.1)), (a4, .inl (cI, 128, .inl B.2.2.1)), (a5, .inl (cI, 128, .inl B.2.2.2.1))] := hD
  refine lv_aload_n hx hb dX0_setSpan_7 rfl (lv_at hl 0 rfl) ?_
  refine va_get (D := D) (ci := 0) (v := .ref a1) (C := RX0) (T := TX0) (N := 9) hx hb hts hin_X0 hown hK hP 0 rfl rfl 1 (by decide) hf_PressedPlains_Book_15 (fun _ h9 => h9) rfl dX0_setSpan_8 ?_
  refine lv_iload_n hx hb dX0_setSpan_11 rfl (lv_at hl 1 rfl) ?_
  refine lv_iload_n hx hb dX0_setSpan_12 rfl (lv_at hl 3 rfl) ?_
  refine pq_iast hx hb hK hP hD hS 2 0 rfl rfl e (by omega) (by decide) dX0_setSpan_13 (fun H locs hP hD hS => ?_)
  have hP : va_P D vwCl [(h, .inr (0, [.ref a0, .ref a1, .ref a2, .ref a3, .ref a4, .ref a5, .int B.2.2.2.2.1, .int B.2.2.2.2.2.1, .int B.2.2.2.2.2.2])), (a0, .inl (cI, 128, .inl (upd fi e f0))), (a1, .inl (cI, 128, .inl (upd la e t0))), (a2, .inl (cI, 128, .inl B.1)), (a3, .inl (cI, 128, .inl B.2.1)), (a4, .inl (cI, 128, .inl B.2.2.1)), (a5, .inl (cI, 128, .inl B.2.2.2.1))] H := hP
  have hD : va_D A [(h, .inr (0, [.ref a0, .ref a1, .ref a2, .ref a3, .ref a4, .ref a5, .int B.2.2.2.2.1, .int B.2.2.2.2.2.1, .int B.2.2.2.2.2.2])), (a0, .inl (cI, 128, .inl (upd fi e f0))), (a1, .inl (cI, 128, .inl (upd la e t0))), (a2, .inl (cI, 128, .inl B.1)), (a3, .inl (cI, 128, .inl B.2.1)), (a4, .inl (cI, 128, .inl B.2.2.1)), (a5, .inl (cI, 128, .inl B.2.2.2.1))] := hD
  exact pq_vret hQ hx hb hr hlocks hK hS hP hD dX0_setSpan_14 (by omega) (by omega) (⟨rfl, rfl⟩)

set_option maxHeartbeats 4000000 in
set_option maxRecDepth 100000 in
theorem mX0_splitSpan (l : Launch) (D : va_G) (cI : ClassId) (h a0 a1 a2 a3 a4 a5 : Nat) (fi la : Nat → Int32) (B : BK) (e : Nat) (he : e < 64) : pq_M l yX0_splitSpan wsX0_splitSpan 1 23 0 0 D [(cI, .int)] pq_0 (bkW h a0 a1 a2 a3 a4 a5 cI fi la B) [.ref h, .int (nI e)] (fun v w1 => v = none ∧ w1 = bkW h a0 a1 a2 a3 a4 a5 cI ((sSplit fi la e).1) ((sSplit fi la e).2) B) := by
  refine pq_enter (cc := cX0_splitSpan) (maxL := 3) (ret := none) (by decide) rfl (Nat.le_of_ble_eq_true rfl) ?_
  intro p ev s m args below meth cd A ls Q H locs hx hb hr hml hts hown hlocks hnm hK hP hD hS hA hE hl hQ
  have hl : lv_has ls 3 [(0, .ref h), (1, .int (nI e))] := hl
  have hP : va_P D vwCl [(h, .inr (0, [.ref a0, .ref a1, .ref a2, .ref a3, .ref a4, .ref a5, .int B.2.2.2.2.1, .int B.2.2.2.2.2.1, .int B.2.2.2.2.2.2])), (a0, .inl (cI, 128, .inl fi)), (a1, .inl (cI, 128, .inl la)), (a2, .inl (cI, 128, .inl B.1)), (a3, .inl (cI, 128, .inl B.2.1)), (a4, .inl (cI, 128, .inl B.2.2.1)), (a5, .inl (cI, 128, .inl B.2.2.2.1))] H := hP
  have hD : va_D A [(h, .inr (0, [.ref a0, .ref a1, .ref a2, .ref a3, .ref a4, .ref a5, .int B.2.2.2.2.1, .int B.2.2.2.2.2.1, .int B.2.2.2.2.2.2])), (a0, .inl (cI, 128, .inl fi)), (a1, .inl (cI, 128, .inl la)), (a2, .inl (cI, 128, .inl B.1)), (a3, .inl (cI, 128, .inl B.2.1)), (a4, .inl (cI, 128, .inl B.2.2.1)), (a5, .inl (cI, 128, .inl B.2.2.2.1))] := hD
  have hin_X0 : ∀ w ∈ wsX00, w ∈ wsX0_splitSpan := by decide +kernel
  have hf_PressedPlains_Book_11 := hts (.fieldLink RX0 11 "PressedPlains$Book" "first" "[I") (by decide +kernel)
  have hf_PressedPlains_Book_15 := hts (.fieldLink RX0 15 "PressedPlains$Book" "last" "[I") (by decide +kernel)
  refine lv_aload_n hx hb dX0_splitSpan_0 rfl (lv_at hl 0 rfl) ?_
  refine lv_iload_n hx hb dX0_splitSpan_1 rfl (lv_at hl 1 rfl) ?_
  refine pq_callV (wr := []) (own := RX0) (nL := 3) (q0 := 0) (ci := 0) [0, 1, 2, 3, 4, 5, 6] [] [.int (nI e)] (mX0_hasParts l D cI h a0 a1 a2 a3 a4 a5 fi la B e (by omega)) ⟨hx, hb, hml, hown, hts⟩ (cwV 1 hts gX0_splitSpan_X0_hasParts rfl rfl rfl (by decide +kernel) ⟨by dsimp only [pq_R]; omega, by dsimp only [pq_R]; omega⟩) pq_bl0 (fun _ _ _ => trivial) hK hP hD hS hA rfl (by decide) rfl (by decide) (by decide) rfl rfl rfl rfl hl.1 rfl (Nat.le_of_ble_eq_true rfl) dX0_splitSpan_2 ⟨by dsimp only [pq_R]; omega, by dsimp only [pq_R]; omega⟩ (fun v w1 H locs hq hP hD hS hz => ?_)
  obtain ⟨rfl, rfl⟩ := hq
  have hP : va_P D vwCl [(h, .inr (0, [.ref a0, .ref a1, .ref a2, .ref a3, .ref a4, .ref a5, .int B.2.2.2.2.1, .int B.2.2.2.2.2.1, .int B.2.2.2.2.2.2])), (a0, .inl (cI, 128, .inl fi)), (a1, .inl (cI, 128, .inl la)), (a2, .inl (cI, 128, .inl B.1)), (a3, .inl (cI, 128, .inl B.2.1)), (a4, .inl (cI, 128, .inl B.2.2.1)), (a5, .inl (cI, 128, .inl B.2.2.2.1))] H := hP
  have hD : va_D A [(h, .inr (0, [.ref a0, .ref a1, .ref a2, .ref a3, .ref a4, .ref a5, .int B.2.2.2.2.1, .int B.2.2.2.2.2.1, .int B.2.2.2.2.2.2])), (a0, .inl (cI, 128, .inl fi)), (a1, .inl (cI, 128, .inl la)), (a2, .inl (cI, 128, .inl B.1)), (a3, .inl (cI, 128, .inl B.2.1)), (a4, .inl (cI, 128, .inl B.2.2.1)), (a5, .inl (cI, 128, .inl B.2.2.2.1))] := hD
  by_cases b_1 : bHp fi la e
  · have he64 : e < 64 := bHp_lt (by omega) b_1
    rw [if_pos b_1]
    refine W.eq (g2 := F0 m 5 ls [.int 1]) rfl ?_
    refine lv_if_eq (tgt := 59) hx hb dX0_splitSpan_5 (by decide) (fun c9 => absurd c9 (by decide)) (fun _ => ?_)
    refine lv_aload_n hx hb dX0_splitSpan_8 rfl (lv_at hl 0 rfl) ?_
    refine va_get (D := D) (ci := 0) (v := .ref a0) (C := RX0) (T := TX0) (N := 9) hx hb hts hin_X0 hown hK hP 0 rfl rfl 0 (by decide) hf_PressedPlains_Book_11 (fun _ h9 => h9) rfl dX0_splitSpan_9 ?_
    refine lv_iload_n hx hb dX0_splitSpan_12 rfl (lv_at hl 1 rfl) ?_
    refine pq_iald hx hb hK hP 1 0 rfl rfl e (by omega) (by decide) dX0_splitSpan_13 ?_
    refine lv_aload_n hx hb dX0_splitSpan_14 rfl (lv_at hl 0 rfl) ?_
    refine va_get (D := D) (ci := 0) (v := .ref a1) (C := RX0) (T := TX0) (N := 9) hx hb hts hin_X0 hown hK hP 0 rfl rfl 1 (by decide) hf_PressedPlains_Book_15 (fun _ h9 => h9) rfl dX0_splitSpan_15 ?_
    refine lv_iload_n hx hb dX0_splitSpan_18 rfl (lv_at hl 1 rfl) ?_
    refine pq_iald hx hb hK hP 2 0 rfl rfl e (by omega) (by decide) dX0_splitSpan_19 ?_
    refine lv_iadd hx hb dX0_splitSpan_20 ?_
    refine lv_iconst (v := 2) hx hb dX0_splitSpan_21 (by decide) ?_
    refine lv_idiv hx hb dX0_splitSpan_22 (by decide) ?_
    refine lv_istore_n (lv' := [(2, .int (((fi e) + (la e)) / 2)), (0, .ref h), (1, .int (nI e))]) hx hb dX0_splitSpan_23 rfl hl (by decide) rfl (fun ls hl => ?_)
    refine lv_aload_n hx hb dX0_splitSpan_24 rfl (lv_at hl 1 rfl) ?_
    refine lv_iconst (v := 2) hx hb dX0_splitSpan_25 (by decide) ?_
    refine lv_iload_n hx hb dX0_splitSpan_26 rfl (lv_at hl 2 rfl) ?_
    refine lv_imul hx hb dX0_splitSpan_27 ?_
    refine pq_top (nI (2 * e)) (pk_mul 2 _) ?_
    refine lv_aload_n hx hb dX0_splitSpan_28 rfl (lv_at hl 1 rfl) ?_
    refine va_get (D := D) (ci := 0) (v := .ref a0) (C := RX0) (T := TX0) (N := 9) hx hb hts hin_X0 hown hK hP 0 rfl rfl 0 (by decide) hf_PressedPlains_Book_11 (fun _ h9 => h9) rfl dX0_splitSpan_29 ?_
    refine lv_iload_n hx hb dX0_splitSpan_32 rfl (lv_at hl 2 rfl) ?_
    refine pq_iald hx hb hK hP 1 0 rfl rfl e (by omega) (by decide) dX0_splitSpan_33 ?_
    refine lv_iload_n hx hb dX0_splitSpan_34 rfl (lv_at hl 0 rfl) ?_
    refine pq_callV (wr := []) (own := RX0) (nL := 3) (q0 := 0) (ci := 0) [0, 1, 2, 3, 4, 5, 6] [] [.int (nI (2 * e)), .int (fi e), .int (((fi e) + (la e)) / 2)] (mX0_setSpan l D cI h a0 a1 a2 a3 a4 a5 fi la B (2 * e) (fi e) (((fi e) + (la e)) / 2) (by omega)) ⟨hx, hb, hml, hown, hts⟩ (cwV 3 hts gX0_splitSpan_X0_setSpan rfl rfl rfl (by decide +kernel) ⟨by dsimp only [pq_R]; omega, by dsimp only [pq_R]; omega⟩) pq_bl0 (fun _ _ _ => trivial) hK hP hD hS hA rfl (by decide) rfl (by decide) (by decide) rfl rfl rfl rfl hl.1 rfl (Nat.le_of_ble_eq_true rfl) dX0_splitSpan_35 ⟨by dsimp only [pq_R]; omega, by dsimp only [pq_R]; omega⟩ (fun v w1 H locs hq hP hD hS hz => ?_)
    obtain ⟨rfl, rfl⟩ := hq
    have hP : va_P D vwCl [(h, .inr (0, [.ref a0, .ref a1, .ref a2, .ref a3, .ref a4, .ref a5, .int B.2.2.2.2.1, .int B.2.2.2.2.2.1, .int B.2.2.2.2.2.2])), (a0, .inl (cI, 128, .inl (upd fi (2 * e) (fi e)))), (a1, .inl (cI, 128, .inl (upd la (2 * e) (((fi e) + (la e)) / 2)))), (a2, .inl (cI, 128, .inl B.1)), (a3, .inl (cI, 128, .inl B.2.1)), (a4, .inl (cI, 128, .inl B.2.2.1)), (a5, .inl (cI, 128, .inl B.2.2.2.1))] H := hP
    have hD : va_D A [(h, .inr (0, [.ref a0, .ref a1, .ref a2, .ref a3, .ref a4, .ref a5, .int B.2.2.2.2.1, .int B.2.2.2.2.2.1, .int B.2.2.2.2.2.2])), (a0, .inl (cI, 128, .inl (upd fi (2 * e) (fi e)))), (a1, .inl (cI, 128, .inl (upd la (2 * e) (((fi e) + (la e)) / 2)))), (a2, .inl (cI, 128, .inl B.1)), (a3, .inl (cI, 128, .inl B.2.1)), (a4, .inl (cI, 128, .inl B.2.2.1)), (a5, .inl (cI, 128, .inl B.2.2.2.1))] := hD
    refine W.eq (g2 := F0 m 38 ls []) rfl ?_
    refine lv_aload_n hx hb dX0_splitSpan_38 rfl (lv_at hl 1 rfl) ?_
    refine lv_iconst (v := 2) hx hb dX0_splitSpan_39 (by decide) ?_
    refine lv_iload_n hx hb dX0_splitSpan_40 rfl (lv_at hl 2 rfl) ?_
    refine lv_imul hx hb dX0_splitSpan_41 ?_
    refine pq_top (nI (2 * e)) (pk_mul 2 _) ?_
    refine lv_iconst (v := 1) hx hb dX0_splitSpan_42 (by decide) ?_
    refine lv_iadd hx hb dX0_splitSpan_43 ?_
    refine pq_top (nI ((2 * e) + 1)) (nI_1 _) ?_
    refine lv_iload_n hx hb dX0_splitSpan_44 rfl (lv_at hl 0 rfl) ?_
    refine lv_iconst (v := 1) hx hb dX0_splitSpan_45 (by decide) ?_
    refine lv_iadd hx hb dX0_splitSpan_46 ?_
    refine lv_aload_n hx hb dX0_splitSpan_47 rfl (lv_at hl 1 rfl) ?_
    refine va_get (D := D) (ci := 0) (v := .ref a1) (C := RX0) (T := TX0) (N := 9) hx hb hts hin_X0 hown hK hP 0 rfl rfl 1 (by decide) hf_PressedPlains_Book_15 (fun _ h9 => h9) rfl dX0_splitSpan_48 ?_
    refine lv_iload_n hx hb dX0_splitSpan_51 rfl (lv_at hl 2 rfl) ?_
    refine pq_iald hx hb hK hP 2 0 rfl rfl e (by omega) (by decide) dX0_splitSpan_52 ?_
    refine pq_callV (wr := []) (own := RX0) (nL := 3) (q0 := 0) (ci := 0) [0, 1, 2, 3, 4, 5, 6] [] [.int (nI ((2 * e) + 1)), .int ((((fi e) + (la e)) / 2) + 1), .int ((upd la (2 * e) (((fi e) + (la e)) / 2)) e)] (mX0_setSpan l D cI h a0 a1 a2 a3 a4 a5 (upd fi (2 * e) (fi e)) (upd la (2 * e) (((fi e) + (la e)) / 2)) B ((2 * e) + 1) ((((fi e) + (la e)) / 2) + 1) ((upd la (2 * e) (((fi e) + (la e)) / 2)) e) (by omega)) ⟨hx, hb, hml, hown, hts⟩ (cwV 3 hts gX0_splitSpan_X0_setSpan rfl rfl rfl (by decide +kernel) ⟨by dsimp only [pq_R]; omega, by dsimp only [pq_R]; omega⟩) pq_bl0 (fun _ _ _ => trivial) hK hP hD hS hA rfl (by decide) rfl (by decide) (by decide) rfl rfl rfl rfl hl.1 rfl (Nat.le_of_ble_eq_true rfl) dX0_splitSpan_53 ⟨by dsimp only [pq_R]; omega, by dsimp only [pq_R]; omega⟩ (fun v w1 H locs hq hP hD hS hz => ?_)
    obtain ⟨rfl, rfl⟩ := hq
    have hP : va_P D vwCl [(h, .inr (0, [.ref a0, .ref a1, .ref a2, .ref a3, .ref a4, .ref a5, .int B.2.2.2.2.1, .int B.2.2.2.2.2.1, .int B.2.2.2.2.2.2])), (a0, .inl (cI, 128, .inl (upd (upd fi (2 * e) (fi e)) ((2 * e) + 1) ((((fi e) + (la e)) / 2) + 1)))), (a1, .inl (cI, 128, .inl (upd (upd la (2 * e) (((fi e) + (la e)) / 2)) ((2 * e) + 1) ((upd la (2 * e) (((fi e) + (la e)) / 2)) e)))), (a2, .inl (cI, 128, .inl B.1)), (a3, .inl (cI, 128, .inl B.2.1)), (a4, .inl (cI, 128, .inl B.2.2.1)), (a5, .inl (cI, 128, .inl B.2.2.2.1))] H := hP
    have hD : va_D A [(h, .inr (0, [.ref a0, .ref a1, .ref a2, .ref a3, .ref a4, .ref a5, .int B.2.2.2.2.1, .int B.2.2.2.2.2.1, .int B.2.2.2.2.2.2])), (a0, .inl (cI, 128, .inl (upd (upd fi (2 * e) (fi e)) ((2 * e) + 1) ((((fi e) + (la e)) / 2) + 1)))), (a1, .inl (cI, 128, .inl (upd (upd la (2 * e) (((fi e) + (la e)) / 2)) ((2 * e) + 1) ((upd la (2 * e) (((fi e) + (la e)) / 2)) e)))), (a2, .inl (cI, 128, .inl B.1)), (a3, .inl (cI, 128, .inl B.2.1)), (a4, .inl (cI, 128, .inl B.2.2.1)), (a5, .inl (cI, 128, .inl B.2.2.2.1))] := hD
    refine W.eq (g2 := F0 m 56 ls []) rfl ?_
    refine lv_goto (tgt := 79) hx hb dX0_splitSpan_56 (by decide) ?_
    exact pq_vret hQ hx hb hr hlocks hK hS hP hD dX0_splitSpan_79 (by omega) (by omega) (⟨rfl, by rw [sSplit, if_pos b_1] <;> rfl⟩)
  · rw [if_neg b_1]
    refine W.eq (g2 := F0 m 5 ls [.int 0]) rfl ?_
    refine lv_if_eq (tgt := 59) hx hb dX0_splitSpan_5 (by decide) (fun _ => ?_) (fun c9 => absurd c9 (by decide))
    refine lv_aload_n hx hb dX0_splitSpan_59 rfl (lv_at hl 0 rfl) ?_
    refine lv_iconst (v := 2) hx hb dX0_splitSpan_60 (by decide) ?_
    refine lv_iload_n hx hb dX0_splitSpan_61 rfl (lv_at hl 1 rfl) ?_
    refine lv_imul hx hb dX0_splitSpan_62 ?_
    refine pq_top (nI (2 * e)) (pk_mul 2 _) ?_
    refine lv_iconst (v := 0) hx hb dX0_splitSpan_63 (by decide) ?_
    refine lv_iconst (v := (-1)) hx hb dX0_splitSpan_64 (by decide) ?_
    refine pq_callV (wr := []) (own := RX0) (nL := 3) (q0 := 0) (ci := 0) [0, 1, 2, 3, 4, 5, 6] [] [.int (nI (2 * e)), .int 0, .int (-1)] (mX0_setSpan l D cI h a0 a1 a2 a3 a4 a5 fi la B (2 * e) 0 (-1) (by omega)) ⟨hx, hb, hml, hown, hts⟩ (cwV 3 hts gX0_splitSpan_X0_setSpan rfl rfl rfl (by decide +kernel) ⟨by dsimp only [pq_R]; omega, by dsimp only [pq_R]; omega⟩) pq_bl0 (fun _ _ _ => trivial) hK hP hD hS hA rfl (by decide) rfl (by decide) (by decide) rfl rfl rfl rfl hl.1 rfl (Nat.le_of_ble_eq_true rfl) dX0_splitSpan_65 ⟨by dsimp only [pq_R]; omega, by dsimp only [pq_R]; omega⟩ (fun v w1 H locs hq hP hD hS hz => ?_)
    obtain ⟨rfl, rfl⟩ := hq
    have hP : va_P D vwCl [(h, .inr (0, [.ref a0, .ref a1, .ref a2, .ref a3, .ref a4, .ref a5, .int B.2.2.2.2.1, .int B.2.2.2.2.2.1, .int B.2.2.2.2.2.2])), (a0, .inl (cI, 128, .inl (upd fi (2 * e) 0))), (a1, .inl (cI, 128, .inl (upd la (2 * e) (-1)))), (a2, .inl (cI, 128, .inl B.1)), (a3, .inl (cI, 128, .inl B.2.1)), (a4, .inl (cI, 128, .inl B.2.2.1)), (a5, .inl (cI, 128, .inl B.2.2.2.1))] H := hP
    have hD : va_D A [(h, .inr (0, [.ref a0, .ref a1, .ref a2, .ref a3, .ref a4, .ref a5, .int B.2.2.2.2.1, .int B.2.2.2.2.2.1, .int B.2.2.2.2.2.2])), (a0, .inl (cI, 128, .inl (upd fi (2 * e) 0))), (a1, .inl (cI, 128, .inl (upd la (2 * e) (-1)))), (a2, .inl (cI, 128, .inl B.1)), (a3, .inl (cI, 128, .inl B.2.1)), (a4, .inl (cI, 128, .inl B.2.2.1)), (a5, .inl (cI, 128, .inl B.2.2.2.1))] := hD
    refine W.eq (g2 := F0 m 68 ls []) rfl ?_
    refine lv_aload_n hx hb dX0_splitSpan_68 rfl (lv_at hl 0 rfl) ?_
    refine lv_iconst (v := 2) hx hb dX0_splitSpan_69 (by decide) ?_
    refine lv_iload_n hx hb dX0_splitSpan_70 rfl (lv_at hl 1 rfl) ?_
    refine lv_imul hx hb dX0_splitSpan_71 ?_
    refine pq_top (nI (2 * e)) (pk_mul 2 _) ?_
    refine lv_iconst (v := 1) hx hb dX0_splitSpan_72 (by decide) ?_
    refine lv_iadd hx hb dX0_splitSpan_73 ?_
    refine pq_top (nI ((2 * e) + 1)) (nI_1 _) ?_
    refine lv_iconst (v := 0) hx hb dX0_splitSpan_74 (by decide) ?_
    refine lv_iconst (v := (-1)) hx hb dX0_splitSpan_75 (by decide) ?_
    refine pq_callV (wr := []) (own := RX0) (nL := 3) (q0 := 0) (ci := 0) [0, 1, 2, 3, 4, 5, 6] [] [.int (nI ((2 * e) + 1)), .int 0, .int (-1)] (mX0_setSpan l D cI h a0 a1 a2 a3 a4 a5 (upd fi (2 * e) 0) (upd la (2 * e) (-1)) B ((2 * e) + 1) 0 (-1) (by omega)) ⟨hx, hb, hml, hown, hts⟩ (cwV 3 hts gX0_splitSpan_X0_setSpan rfl rfl rfl (by decide +kernel) ⟨by dsimp only [pq_R]; omega, by dsimp only [pq_R]; omega⟩) pq_bl0 (fun _ _ _ => trivial) hK hP hD hS hA rfl (by decide) rfl (by decide) (by decide) rfl rfl rfl rfl hl.1 rfl (Nat.le_of_ble_eq_true rfl) dX0_splitSpan_76 ⟨by dsimp only [pq_R]; omega, by dsimp only [pq_R]; omega⟩ (fun v w1 H locs hq hP hD hS hz => ?_)
    obtain ⟨rfl, rfl⟩ := hq
    have hP : va_P D vwCl [(h, .inr (0, [.ref a0, .ref a1, .ref a2, .ref a3, .ref a4, .ref a5, .int B.2.2.2.2.1, .int B.2.2.2.2.2.1, .int B.2.2.2.2.2.2])), (a0, .inl (cI, 128, .inl (upd (upd fi (2 * e) 0) ((2 * e) + 1) 0))), (a1, .inl (cI, 128, .inl (upd (upd la (2 * e) (-1)) ((2 * e) + 1) (-1)))), (a2, .inl (cI, 128, .inl B.1)), (a3, .inl (cI, 128, .inl B.2.1)), (a4, .inl (cI, 128, .inl B.2.2.1)), (a5, .inl (cI, 128, .inl B.2.2.2.1))] H := hP
    have hD : va_D A [(h, .inr (0, [.ref a0, .ref a1, .ref a2, .ref a3, .ref a4, .ref a5, .int B.2.2.2.2.1, .int B.2.2.2.2.2.1, .int B.2.2.2.2.2.2])), (a0, .inl (cI, 128, .inl (upd (upd fi (2 * e) 0) ((2 * e) + 1) 0))), (a1, .inl (cI, 128, .inl (upd (upd la (2 * e) (-1)) ((2 * e) + 1) (-1)))), (a2, .inl (cI, 128, .inl B.1)), (a3, .inl (cI, 128, .inl B.2.1)), (a4, .inl (cI, 128, .inl B.2.2.1)), (a5, .inl (cI, 128, .inl B.2.2.2.1))] := hD
    refine W.eq (g2 := F0 m 79 ls []) rfl ?_
    exact pq_vret hQ hx hb hr hlocks hK hS hP hD dX0_splitSpan_79 (by omega) (by omega) (⟨rfl, by rw [sSplit, if_neg b_1] <;> rfl⟩)

set_option maxHeartbeats 4000000 in
set_option maxRecDepth 100000 in
theorem mX0_renew (l : Launch) (D : va_G) (cI : ClassId) (h a0 a1 a2 a3 a4 a5 : Nat) (fi la : Nat → Int32) (B : BK) (n0 v0 : Int32) : pq_M l yX0_renew wsX0_renew 2 45 0 0 D [(cI, .int)] pq_0 (bkW h a0 a1 a2 a3 a4 a5 cI fi la B) [.ref h, .int n0, .int v0] (fun v w1 => v = none ∧ w1 = bkW h a0 a1 a2 a3 a4 a5 cI (sIter (upd fi 1 0, upd la 1 (n0 - 1)) 63).1 (sIter (upd fi 1 0, upd la 1 (n0 - 1)) 63).2 (bNew (sIter (upd fi 1 0, upd la 1 (n0 - 1)) 63) v0 B)) := by
  refine pq_enter (cc := cX0_renew) (maxL := 5) (ret := none) (by decide) rfl (Nat.le_of_ble_eq_true rfl) ?_
  intro p ev s m args below meth cd A ls Q H locs hx hb hr hml hts hown hlocks hnm hK hP hD hS hA hE hl hQ
  have hl : lv_has ls 5 [(0, .ref h), (1, .int n0), (2, .int v0)] := hl
  have hP : va_P D vwCl [(h, .inr (0, [.ref a0, .ref a1, .ref a2, .ref a3, .ref a4, .ref a5, .int B.2.2.2.2.1, .int B.2.2.2.2.2.1, .int B.2.2.2.2.2.2])), (a0, .inl (cI, 128, .inl fi)), (a1, .inl (cI, 128, .inl la)), (a2, .inl (cI, 128, .inl B.1)), (a3, .inl (cI, 128, .inl B.2.1)), (a4, .inl (cI, 128, .inl B.2.2.1)), (a5, .inl (cI, 128, .inl B.2.2.2.1))] H := hP
  have hD : va_D A [(h, .inr (0, [.ref a0, .ref a1, .ref a2, .ref a3, .ref a4, .ref a5, .int B.2.2.2.2.1, .int B.2.2.2.2.2.1, .int B.2.2.2.2.2.2])), (a0, .inl (cI, 128, .inl fi)), (a1, .inl (cI, 128, .inl la)), (a2, .inl (cI, 128, .inl B.1)), (a3, .inl (cI, 128, .inl B.2.1)), (a4, .inl (cI, 128, .inl B.2.2.1)), (a5, .inl (cI, 128, .inl B.2.2.2.1))] := hD
  have hin_X0 : ∀ w ∈ wsX00, w ∈ wsX0_renew := by decide +kernel
  have hf_PressedPlains_Book_15 := hts (.fieldLink RX0 15 "PressedPlains$Book" "last" "[I") (by decide +kernel)
  have hf_PressedPlains_Book_11 := hts (.fieldLink RX0 11 "PressedPlains$Book" "first" "[I") (by decide +kernel)
  have hf_PressedPlains_Book_18 := hts (.fieldLink RX0 18 "PressedPlains$Book" "greatest" "[I") (by decide +kernel)
  have hf_PressedPlains_Book_21 := hts (.fieldLink RX0 21 "PressedPlains$Book" "second" "[I") (by decide +kernel)
  have hf_PressedPlains_Book_24 := hts (.fieldLink RX0 24 "PressedPlains$Book" "many" "[I") (by decide +kernel)
  have hf_PressedPlains_Book_27 := hts (.fieldLink RX0 27 "PressedPlains$Book" "sum" "[I") (by decide +kernel)
  have hf_PressedPlains_Book_38 := hts (.fieldLink RX0 38 "PressedPlains$Book" "latestVisits" "I") (by decide +kernel)
  have hf_PressedPlains_Book_42 := hts (.fieldLink RX0 42 "PressedPlains$Book" "totalVisits" "I") (by decide +kernel)
  have hf_PressedPlains_Book_45 := hts (.fieldLink RX0 45 "PressedPlains$Book" "calls" "I") (by decide +kernel)
  refine lv_aload_n hx hb dX0_renew_0 rfl (lv_at hl 0 rfl) ?_
  refine lv_iconst (v := 1) hx hb dX0_renew_1 (by decide) ?_
  refine lv_iconst (v := 0) hx hb dX0_renew_2 (by decide) ?_
  refine lv_iload_n hx hb dX0_renew_3 rfl (lv_at hl 1 rfl) ?_
  refine lv_iconst (v := 1) hx hb dX0_renew_4 (by decide) ?_
  refine lv_isub hx hb dX0_renew_5 ?_
  refine pq_callV (wr := []) (own := RX0) (nL := 5) (q0 := 0) (ci := 0) [0, 1, 2, 3, 4, 5, 6] [] [.int 1, .int 0, .int (n0 - 1)] (mX0_setSpan l D cI h a0 a1 a2 a3 a4 a5 fi la B 1 0 (n0 - 1) (by omega)) ⟨hx, hb, hml, hown, hts⟩ (cwV 3 hts gX0_renew_X0_setSpan rfl rfl rfl (by decide +kernel) ⟨by dsimp only [pq_R]; omega, by dsimp only [pq_R]; omega⟩) pq_bl0 (fun _ _ _ => trivial) hK hP hD hS hA rfl (by decide) rfl (by decide) (by decide) rfl rfl rfl rfl hl.1 rfl (Nat.le_of_ble_eq_true rfl) dX0_renew_6 ⟨by dsimp only [pq_R]; omega, by dsimp only [pq_R]; omega⟩ (fun v w1 H locs hq hP hD hS hz => ?_)
  obtain ⟨rfl, rfl⟩ := hq
  have hP : va_P D vwCl [(h, .inr (0, [.ref a0, .ref a1, .ref a2, .ref a3, .ref a4, .ref a5, .int B.2.2.2.2.1, .int B.2.2.2.2.2.1, .int B.2.2.2.2.2.2])), (a0, .inl (cI, 128, .inl (upd fi 1 0))), (a1, .inl (cI, 128, .inl (upd la 1 (n0 - 1)))), (a2, .inl (cI, 128, .inl B.1)), (a3, .inl (cI, 128, .inl B.2.1)), (a4, .inl (cI, 128, .inl B.2.2.1)), (a5, .inl (cI, 128, .inl B.2.2.2.1))] H := hP
  have hD : va_D A [(h, .inr (0, [.ref a0, .ref a1, .ref a2, .ref a3, .ref a4, .ref a5, .int B.2.2.2.2.1, .int B.2.2.2.2.2.1, .int B.2.2.2.2.2.2])), (a0, .inl (cI, 128, .inl (upd fi 1 0))), (a1, .inl (cI, 128, .inl (upd la 1 (n0 - 1)))), (a2, .inl (cI, 128, .inl B.1)), (a3, .inl (cI, 128, .inl B.2.1)), (a4, .inl (cI, 128, .inl B.2.2.1)), (a5, .inl (cI, 128, .inl B.2.2.2.1))] := hD
  refine W.eq (g2 := F0 m 9 ls []) rfl ?_
  refine lv_iconst (v := 1) hx hb dX0_renew_9 (by decide) ?_
  refine lv_istore_n (lv' := [(3, .int 1), (0, .ref h), (1, .int n0), (2, .int v0)]) hx hb dX0_renew_10 rfl hl (by decide) rfl (fun ls hl => ?_)
  have L1 : ∀ (n : Nat) (k1 : Nat) (X : (Nat → Int32) × (Nat → Int32)), 64 - k1 < n → 1 ≤ k1 → k1 ≤ 64 → X = sIter (upd fi 1 0, upd la 1 (n0 - 1)) (k1 - 1) → ∀ (H : Heap) (locs : List Loc) (ls : Array Slot), va_P D vwCl [(h, .inr (0, [.ref a0, .ref a1, .ref a2, .ref a3, .ref a4, .ref a5, .int B.2.2.2.2.1, .int B.2.2.2.2.2.1, .int B.2.2.2.2.2.2])), (a0, .inl (cI, 128, .inl X.1)), (a1, .inl (cI, 128, .inl X.2)), (a2, .inl (cI, 128, .inl B.1)), (a3, .inl (cI, 128, .inl B.2.1)), (a4, .inl (cI, 128, .inl B.2.2.1)), (a5, .inl (cI, 128, .inl B.2.2.2.1))] H → va_D A [(h, .inr (0, [.ref a0, .ref a1, .ref a2, .ref a3, .ref a4, .ref a5, .int B.2.2.2.2.1, .int B.2.2.2.2.2.1, .int B.2.2.2.2.2.2])), (a0, .inl (cI, 128, .inl X.1)), (a1, .inl (cI, 128, .inl X.2)), (a2, .inl (cI, 128, .inl B.1)), (a3, .inl (cI, 128, .inl B.2.1)), (a4, .inl (cI, 128, .inl B.2.2.1)), (a5, .inl (cI, 128, .inl B.2.2.2.1))] → va_S A s.heap H locs → lv_has ls 5 [(3, .int (nI k1)), (0, .ref h), (1, .int n0), (2, .int v0)] → W p l ev (pq_R 2 45 0 0) s m args below meth cd H locs 0 0 Q (F0 m 11 ls []) := by
    intro n
    induction n with
    | zero => intro k1 X h1; exact absurd h1 (Nat.not_lt_zero _)
    | succ n ihL1 =>
      intro k1 X hmeas g2 g3 hX H locs ls hP hD hS hl
      refine lv_iload_n hx hb dX0_renew_11 rfl (lv_at hl 0 rfl) ?_
      refine lv_bipush (v := 64) hx hb dX0_renew_12 (by decide) ?_
      rcases Nat.lt_or_ge k1 64 with k_1 | k_1
      · refine lv_icmp_ge (tgt := 28) hx hb dX0_renew_14 (by decide) (fun c9 => absurd c9 ((nI_ge (a := k1) (b := 64) k_1 (by omega)))) (fun _ => ?_)
        refine lv_aload_n hx hb dX0_renew_17 rfl (lv_at hl 1 rfl) ?_
        refine lv_iload_n hx hb dX0_renew_18 rfl (lv_at hl 0 rfl) ?_
        refine pq_callV (wr := []) (own := RX0) (nL := 5) (q0 := 0) (ci := 0) [0, 1, 2, 3, 4, 5, 6] [] [.int (nI k1)] (mX0_splitSpan l D cI h a0 a1 a2 a3 a4 a5 X.1 X.2 B k1 (by omega)) ⟨hx, hb, hml, hown, hts⟩ (cwV 1 hts gX0_renew_X0_splitSpan rfl rfl rfl (by decide +kernel) ⟨by dsimp only [pq_R]; omega, by dsimp only [pq_R]; omega⟩) pq_bl0 (fun _ _ _ => trivial) hK hP hD hS hA rfl (by decide) rfl (by decide) (by decide) rfl rfl rfl rfl hl.1 rfl (Nat.le_of_ble_eq_true rfl) dX0_renew_19 ⟨by dsimp only [pq_R]; omega, by dsimp only [pq_R]; omega⟩ (fun v w1 H locs hq hP hD hS hz => ?_)
        obtain ⟨rfl, rfl⟩ := hq
        have hP : va_P D vwCl [(h, .inr (0, [.ref a0, .ref a1, .ref a2, .ref a3, .ref a4, .ref a5, .int B.2.2.2.2.1, .int B.2.2.2.2.2.1, .int B.2.2.2.2.2.2])), (a0, .inl (cI, 128, .inl ((sSplit X.1 X.2 k1).1))), (a1, .inl (cI, 128, .inl ((sSplit X.1 X.2 k1).2))), (a2, .inl (cI, 128, .inl B.1)), (a3, .inl (cI, 128, .inl B.2.1)), (a4, .inl (cI, 128, .inl B.2.2.1)), (a5, .inl (cI, 128, .inl B.2.2.2.1))] H := hP
        have hD : va_D A [(h, .inr (0, [.ref a0, .ref a1, .ref a2, .ref a3, .ref a4, .ref a5, .int B.2.2.2.2.1, .int B.2.2.2.2.2.1, .int B.2.2.2.2.2.2])), (a0, .inl (cI, 128, .inl ((sSplit X.1 X.2 k1).1))), (a1, .inl (cI, 128, .inl ((sSplit X.1 X.2 k1).2))), (a2, .inl (cI, 128, .inl B.1)), (a3, .inl (cI, 128, .inl B.2.1)), (a4, .inl (cI, 128, .inl B.2.2.1)), (a5, .inl (cI, 128, .inl B.2.2.2.1))] := hD
        refine W.eq (g2 := F0 m 22 ls []) rfl ?_
        refine lv_iinc (v := nI (k1 + 1)) (lv' := [(3, .int (nI (k1 + 1))), (0, .ref h), (1, .int n0), (2, .int v0)]) hx hb dX0_renew_22 hl (k := 0) rfl (nI_add _ 1) (by decide) rfl (fun ls hl => ?_)
        refine lv_goto (tgt := 11) hx hb dX0_renew_25 (by decide) ?_
        exact ihL1 (k1 + 1) (sSplit X.1 X.2 k1) (by omega) (by omega) (by omega) (by rw [hX, sIter_s (by omega)]) H locs ls hP hD hS (lv_sub hl [0, 1, 2, 3] rfl)
      · refine lv_icmp_ge (tgt := 28) hx hb dX0_renew_14 (by decide) (fun _ => ?_) (fun c9 => absurd ((nI_le (a := 64) (b := k1) k_1 (by omega))) c9)
        refine lv_iconst (v := 1) hx hb dX0_renew_28 (by decide) ?_
        refine lv_istore_n (lv' := [(3, .int 1), (0, .ref h), (1, .int n0), (2, .int v0)]) hx hb dX0_renew_29 rfl hl (by decide) rfl (fun ls hl => ?_)
        obtain ⟨fi2, la2, hfl⟩ : ∃ (f g : Nat → Int32), X = (f, g) := ⟨X.1, X.2, rfl⟩
        subst hfl
        have hP : va_P D vwCl [(h, .inr (0, [.ref a0, .ref a1, .ref a2, .ref a3, .ref a4, .ref a5, .int B.2.2.2.2.1, .int B.2.2.2.2.2.1, .int B.2.2.2.2.2.2])), (a0, .inl (cI, 128, .inl fi2)), (a1, .inl (cI, 128, .inl la2)), (a2, .inl (cI, 128, .inl B.1)), (a3, .inl (cI, 128, .inl B.2.1)), (a4, .inl (cI, 128, .inl B.2.2.1)), (a5, .inl (cI, 128, .inl B.2.2.2.1))] H := hP
        have hD : va_D A [(h, .inr (0, [.ref a0, .ref a1, .ref a2, .ref a3, .ref a4, .ref a5, .int B.2.2.2.2.1, .int B.2.2.2.2.2.1, .int B.2.2.2.2.2.2])), (a0, .inl (cI, 128, .inl fi2)), (a1, .inl (cI, 128, .inl la2)), (a2, .inl (cI, 128, .inl B.1)), (a3, .inl (cI, 128, .inl B.2.1)), (a4, .inl (cI, 128, .inl B.2.2.1)), (a5, .inl (cI, 128, .inl B.2.2.2.1))] := hD
        have L2 : ∀ (n : Nat) (kk : Nat) (Y : BK), 128 - kk < n → 1 ≤ kk → kk ≤ 128 → Y = bFill fi2 la2 v0 B (kk - 1) → ∀ (H : Heap) (locs : List Loc) (ls : Array Slot), va_P D vwCl [(h, .inr (0, [.ref a0, .ref a1, .ref a2, .ref a3, .ref a4, .ref a5, .int Y.2.2.2.2.1, .int Y.2.2.2.2.2.1, .int Y.2.2.2.2.2.2])), (a0, .inl (cI, 128, .inl fi2)), (a1, .inl (cI, 128, .inl la2)), (a2, .inl (cI, 128, .inl Y.1)), (a3, .inl (cI, 128, .inl Y.2.1)), (a4, .inl (cI, 128, .inl Y.2.2.1)), (a5, .inl (cI, 128, .inl Y.2.2.2.1))] H → va_D A [(h, .inr (0, [.ref a0, .ref a1, .ref a2, .ref a3, .ref a4, .ref a5, .int Y.2.2.2.2.1, .int Y.2.2.2.2.2.1, .int Y.2.2.2.2.2.2])), (a0, .inl (cI, 128, .inl fi2)), (a1, .inl (cI, 128, .inl la2)), (a2, .inl (cI, 128, .inl Y.1)), (a3, .inl (cI, 128, .inl Y.2.1)), (a4, .inl (cI, 128, .inl Y.2.2.1)), (a5, .inl (cI, 128, .inl Y.2.2.2.1))] → va_S A s.heap H locs → lv_has ls 5 [(3, .int (nI kk)), (0, .ref h), (1, .int n0), (2, .int v0)] → W p l ev (pq_R 2 45 0 0) s m args below meth cd H locs 0 0 Q (F0 m 30 ls []) := by
          intro n
          induction n with
          | zero => intro kk Y h1; exact absurd h1 (Nat.not_lt_zero _)
          | succ n ihL2 =>
            intro kk Y hmeas h2 h3 hY H locs ls hP hD hS hl
            refine lv_iload_n hx hb dX0_renew_30 rfl (lv_at hl 0 rfl) ?_
            refine lv_sipush (v := 128) hx hb dX0_renew_31 (by decide) ?_
            rcases Nat.lt_or_ge kk 128 with k_2 | k_2
            · refine lv_icmp_ge (tgt := 92) hx hb dX0_renew_34 (by decide) (fun c9 => absurd c9 ((nI_ge (a := kk) (b := 128) k_2 (by omega)))) (fun _ => ?_)
              refine lv_aload_n hx hb dX0_renew_37 rfl (lv_at hl 1 rfl) ?_
              refine va_get (D := D) (ci := 0) (v := .ref a1) (C := RX0) (T := TX0) (N := 9) hx hb hts hin_X0 hown hK hP 0 rfl rfl 1 (by decide) hf_PressedPlains_Book_15 (fun _ h9 => h9) rfl dX0_renew_38 ?_
              refine lv_iload_n hx hb dX0_renew_41 rfl (lv_at hl 0 rfl) ?_
              refine pq_iald hx hb hK hP 2 0 rfl rfl kk (by omega) (by decide) dX0_renew_42 ?_
              refine lv_aload_n hx hb dX0_renew_43 rfl (lv_at hl 1 rfl) ?_
              refine va_get (D := D) (ci := 0) (v := .ref a0) (C := RX0) (T := TX0) (N := 9) hx hb hts hin_X0 hown hK hP 0 rfl rfl 0 (by decide) hf_PressedPlains_Book_11 (fun _ h9 => h9) rfl dX0_renew_44 ?_
              refine lv_iload_n hx hb dX0_renew_47 rfl (lv_at hl 0 rfl) ?_
              refine pq_iald hx hb hK hP 1 0 rfl rfl kk (by omega) (by decide) dX0_renew_48 ?_
              refine lv_isub hx hb dX0_renew_49 ?_
              refine lv_iconst (v := 1) hx hb dX0_renew_50 (by decide) ?_
              refine lv_iadd hx hb dX0_renew_51 ?_
              refine lv_istore (lv' := [(4, .int (((la2 kk) - (fi2 kk)) + 1)), (3, .int (nI kk)), (0, .ref h), (1, .int n0), (2, .int v0)]) hx hb dX0_renew_52 hl (by decide) rfl (fun ls hl => ?_)
              refine lv_aload_n hx hb dX0_renew_54 rfl (lv_at hl 2 rfl) ?_
              refine va_get (D := D) (ci := 0) (v := .ref a2) (C := RX0) (T := TX0) (N := 9) hx hb hts hin_X0 hown hK hP 0 rfl rfl 2 (by decide) hf_PressedPlains_Book_18 (fun _ h9 => h9) rfl dX0_renew_55 ?_
              refine lv_iload_n hx hb dX0_renew_58 rfl (lv_at hl 1 rfl) ?_
              refine lv_iload_n hx hb dX0_renew_59 rfl (lv_at hl 4 rfl) ?_
              refine pq_iast hx hb hK hP hD hS 3 0 rfl rfl kk (by omega) (by decide) dX0_renew_60 (fun H locs hP hD hS => ?_)
              have hP : va_P D vwCl [(h, .inr (0, [.ref a0, .ref a1, .ref a2, .ref a3, .ref a4, .ref a5, .int Y.2.2.2.2.1, .int Y.2.2.2.2.2.1, .int Y.2.2.2.2.2.2])), (a0, .inl (cI, 128, .inl fi2)), (a1, .inl (cI, 128, .inl la2)), (a2, .inl (cI, 128, .inl (upd Y.1 kk v0))), (a3, .inl (cI, 128, .inl Y.2.1)), (a4, .inl (cI, 128, .inl Y.2.2.1)), (a5, .inl (cI, 128, .inl Y.2.2.2.1))] H := hP
              have hD : va_D A [(h, .inr (0, [.ref a0, .ref a1, .ref a2, .ref a3, .ref a4, .ref a5, .int Y.2.2.2.2.1, .int Y.2.2.2.2.2.1, .int Y.2.2.2.2.2.2])), (a0, .inl (cI, 128, .inl fi2)), (a1, .inl (cI, 128, .inl la2)), (a2, .inl (cI, 128, .inl (upd Y.1 kk v0))), (a3, .inl (cI, 128, .inl Y.2.1)), (a4, .inl (cI, 128, .inl Y.2.2.1)), (a5, .inl (cI, 128, .inl Y.2.2.2.1))] := hD
              refine lv_aload_n hx hb dX0_renew_61 rfl (lv_at hl 2 rfl) ?_
              refine va_get (D := D) (ci := 0) (v := .ref a3) (C := RX0) (T := TX0) (N := 9) hx hb hts hin_X0 hown hK hP 0 rfl rfl 3 (by decide) hf_PressedPlains_Book_21 (fun _ h9 => h9) rfl dX0_renew_62 ?_
              refine lv_iload_n hx hb dX0_renew_65 rfl (lv_at hl 1 rfl) ?_
              refine lv_iconst (v := (-1)) hx hb dX0_renew_66 (by decide) ?_
              refine pq_iast hx hb hK hP hD hS 4 0 rfl rfl kk (by omega) (by decide) dX0_renew_67 (fun H locs hP hD hS => ?_)
              have hP : va_P D vwCl [(h, .inr (0, [.ref a0, .ref a1, .ref a2, .ref a3, .ref a4, .ref a5, .int Y.2.2.2.2.1, .int Y.2.2.2.2.2.1, .int Y.2.2.2.2.2.2])), (a0, .inl (cI, 128, .inl fi2)), (a1, .inl (cI, 128, .inl la2)), (a2, .inl (cI, 128, .inl (upd Y.1 kk v0))), (a3, .inl (cI, 128, .inl (upd Y.2.1 kk (-1)))), (a4, .inl (cI, 128, .inl Y.2.2.1)), (a5, .inl (cI, 128, .inl Y.2.2.2.1))] H := hP
              have hD : va_D A [(h, .inr (0, [.ref a0, .ref a1, .ref a2, .ref a3, .ref a4, .ref a5, .int Y.2.2.2.2.1, .int Y.2.2.2.2.2.1, .int Y.2.2.2.2.2.2])), (a0, .inl (cI, 128, .inl fi2)), (a1, .inl (cI, 128, .inl la2)), (a2, .inl (cI, 128, .inl (upd Y.1 kk v0))), (a3, .inl (cI, 128, .inl (upd Y.2.1 kk (-1)))), (a4, .inl (cI, 128, .inl Y.2.2.1)), (a5, .inl (cI, 128, .inl Y.2.2.2.1))] := hD
              refine lv_aload_n hx hb dX0_renew_68 rfl (lv_at hl 2 rfl) ?_
              refine va_get (D := D) (ci := 0) (v := .ref a4) (C := RX0) (T := TX0) (N := 9) hx hb hts hin_X0 hown hK hP 0 rfl rfl 4 (by decide) hf_PressedPlains_Book_24 (fun _ h9 => h9) rfl dX0_renew_69 ?_
              refine lv_iload_n hx hb dX0_renew_72 rfl (lv_at hl 1 rfl) ?_
              refine lv_iload hx hb dX0_renew_73 (lv_at hl 0 rfl) ?_
              refine pq_iast hx hb hK hP hD hS 5 0 rfl rfl kk (by omega) (by decide) dX0_renew_75 (fun H locs hP hD hS => ?_)
              have hP : va_P D vwCl [(h, .inr (0, [.ref a0, .ref a1, .ref a2, .ref a3, .ref a4, .ref a5, .int Y.2.2.2.2.1, .int Y.2.2.2.2.2.1, .int Y.2.2.2.2.2.2])), (a0, .inl (cI, 128, .inl fi2)), (a1, .inl (cI, 128, .inl la2)), (a2, .inl (cI, 128, .inl (upd Y.1 kk v0))), (a3, .inl (cI, 128, .inl (upd Y.2.1 kk (-1)))), (a4, .inl (cI, 128, .inl (upd Y.2.2.1 kk (((la2 kk) - (fi2 kk)) + 1)))), (a5, .inl (cI, 128, .inl Y.2.2.2.1))] H := hP
              have hD : va_D A [(h, .inr (0, [.ref a0, .ref a1, .ref a2, .ref a3, .ref a4, .ref a5, .int Y.2.2.2.2.1, .int Y.2.2.2.2.2.1, .int Y.2.2.2.2.2.2])), (a0, .inl (cI, 128, .inl fi2)), (a1, .inl (cI, 128, .inl la2)), (a2, .inl (cI, 128, .inl (upd Y.1 kk v0))), (a3, .inl (cI, 128, .inl (upd Y.2.1 kk (-1)))), (a4, .inl (cI, 128, .inl (upd Y.2.2.1 kk (((la2 kk) - (fi2 kk)) + 1)))), (a5, .inl (cI, 128, .inl Y.2.2.2.1))] := hD
              refine lv_aload_n hx hb dX0_renew_76 rfl (lv_at hl 2 rfl) ?_
              refine va_get (D := D) (ci := 0) (v := .ref a5) (C := RX0) (T := TX0) (N := 9) hx hb hts hin_X0 hown hK hP 0 rfl rfl 5 (by decide) hf_PressedPlains_Book_27 (fun _ h9 => h9) rfl dX0_renew_77 ?_
              refine lv_iload_n hx hb dX0_renew_80 rfl (lv_at hl 1 rfl) ?_
              refine lv_iload hx hb dX0_renew_81 (lv_at hl 0 rfl) ?_
              refine lv_iload_n hx hb dX0_renew_83 rfl (lv_at hl 4 rfl) ?_
              refine lv_imul hx hb dX0_renew_84 ?_
              refine pq_iast hx hb hK hP hD hS 6 0 rfl rfl kk (by omega) (by decide) dX0_renew_85 (fun H locs hP hD hS => ?_)
              have hP : va_P D vwCl [(h, .inr (0, [.ref a0, .ref a1, .ref a2, .ref a3, .ref a4, .ref a5, .int Y.2.2.2.2.1, .int Y.2.2.2.2.2.1, .int Y.2.2.2.2.2.2])), (a0, .inl (cI, 128, .inl fi2)), (a1, .inl (cI, 128, .inl la2)), (a2, .inl (cI, 128, .inl (upd Y.1 kk v0))), (a3, .inl (cI, 128, .inl (upd Y.2.1 kk (-1)))), (a4, .inl (cI, 128, .inl (upd Y.2.2.1 kk (((la2 kk) - (fi2 kk)) + 1)))), (a5, .inl (cI, 128, .inl (upd Y.2.2.2.1 kk ((((la2 kk) - (fi2 kk)) + 1) * v0))))] H := hP
              have hD : va_D A [(h, .inr (0, [.ref a0, .ref a1, .ref a2, .ref a3, .ref a4, .ref a5, .int Y.2.2.2.2.1, .int Y.2.2.2.2.2.1, .int Y.2.2.2.2.2.2])), (a0, .inl (cI, 128, .inl fi2)), (a1, .inl (cI, 128, .inl la2)), (a2, .inl (cI, 128, .inl (upd Y.1 kk v0))), (a3, .inl (cI, 128, .inl (upd Y.2.1 kk (-1)))), (a4, .inl (cI, 128, .inl (upd Y.2.2.1 kk (((la2 kk) - (fi2 kk)) + 1)))), (a5, .inl (cI, 128, .inl (upd Y.2.2.2.1 kk ((((la2 kk) - (fi2 kk)) + 1) * v0))))] := hD
              refine lv_iinc (v := nI (kk + 1)) (lv' := [(3, .int (nI (kk + 1))), (4, .int (((la2 kk) - (fi2 kk)) + 1)), (0, .ref h), (1, .int n0), (2, .int v0)]) hx hb dX0_renew_86 hl (k := 1) rfl (nI_add _ 1) (by decide) rfl (fun ls hl => ?_)
              refine lv_goto (tgt := 30) hx hb dX0_renew_89 (by decide) ?_
              exact ihL2 (kk + 1) (upd Y.1 kk v0, upd Y.2.1 kk (-1), upd Y.2.2.1 kk (((la2 kk) - (fi2 kk)) + 1), upd Y.2.2.2.1 kk ((((la2 kk) - (fi2 kk)) + 1) * v0), Y.2.2.2.2) (by omega) (by omega) (by omega) (by rw [bFill_s _ _ _ _ (by omega), ← hY]) H locs ls hP hD hS (lv_sub hl [0, 2, 3, 4] rfl)
            · refine lv_icmp_ge (tgt := 92) hx hb dX0_renew_34 (by decide) (fun _ => ?_) (fun c9 => absurd ((nI_le (a := 128) (b := kk) k_2 (by omega))) c9)
              refine lv_aload_n hx hb dX0_renew_92 rfl (lv_at hl 1 rfl) ?_
              refine lv_iconst (v := 0) hx hb dX0_renew_93 (by decide) ?_
              refine va_put (D := D) (ci := 0) (v := .int 0) (ty := .int) (C := RX0) (T := TX0) (N := 9) hx hb hts hin_X0 tyX0 tyX0_ok nmX0 hown hK hP hD hS 0 rfl rfl 6 (by decide) hf_PressedPlains_Book_38 (fun _ h9 => h9) rfl (by decide +kernel) rfl rfl (Nat.le_of_ble_eq_true rfl) dX0_renew_94 (fun H locs hP hD hS => ?_)
              have hP : va_P D vwCl [(h, .inr (0, [.ref a0, .ref a1, .ref a2, .ref a3, .ref a4, .ref a5, .int 0, .int Y.2.2.2.2.2.1, .int Y.2.2.2.2.2.2])), (a0, .inl (cI, 128, .inl fi2)), (a1, .inl (cI, 128, .inl la2)), (a2, .inl (cI, 128, .inl Y.1)), (a3, .inl (cI, 128, .inl Y.2.1)), (a4, .inl (cI, 128, .inl Y.2.2.1)), (a5, .inl (cI, 128, .inl Y.2.2.2.1))] H := hP
              have hD : va_D A [(h, .inr (0, [.ref a0, .ref a1, .ref a2, .ref a3, .ref a4, .ref a5, .int 0, .int Y.2.2.2.2.2.1, .int Y.2.2.2.2.2.2])), (a0, .inl (cI, 128, .inl fi2)), (a1, .inl (cI, 128, .inl la2)), (a2, .inl (cI, 128, .inl Y.1)), (a3, .inl (cI, 128, .inl Y.2.1)), (a4, .inl (cI, 128, .inl Y.2.2.1)), (a5, .inl (cI, 128, .inl Y.2.2.2.1))] := hD
              refine lv_aload_n hx hb dX0_renew_97 rfl (lv_at hl 1 rfl) ?_
              refine lv_iconst (v := 0) hx hb dX0_renew_98 (by decide) ?_
              refine va_put (D := D) (ci := 0) (v := .int 0) (ty := .int) (C := RX0) (T := TX0) (N := 9) hx hb hts hin_X0 tyX0 tyX0_ok nmX0 hown hK hP hD hS 0 rfl rfl 7 (by decide) hf_PressedPlains_Book_42 (fun _ h9 => h9) rfl (by decide +kernel) rfl rfl (Nat.le_of_ble_eq_true rfl) dX0_renew_99 (fun H locs hP hD hS => ?_)
              have hP : va_P D vwCl [(h, .inr (0, [.ref a0, .ref a1, .ref a2, .ref a3, .ref a4, .ref a5, .int 0, .int 0, .int Y.2.2.2.2.2.2])), (a0, .inl (cI, 128, .inl fi2)), (a1, .inl (cI, 128, .inl la2)), (a2, .inl (cI, 128, .inl Y.1)), (a3, .inl (cI, 128, .inl Y.2.1)), (a4, .inl (cI, 128, .inl Y.2.2.1)), (a5, .inl (cI, 128, .inl Y.2.2.2.1))] H := hP
              have hD : va_D A [(h, .inr (0, [.ref a0, .ref a1, .ref a2, .ref a3, .ref a4, .ref a5, .int 0, .int 0, .int Y.2.2.2.2.2.2])), (a0, .inl (cI, 128, .inl fi2)), (a1, .inl (cI, 128, .inl la2)), (a2, .inl (cI, 128, .inl Y.1)), (a3, .inl (cI, 128, .inl Y.2.1)), (a4, .inl (cI, 128, .inl Y.2.2.1)), (a5, .inl (cI, 128, .inl Y.2.2.2.1))] := hD
              refine lv_aload_n hx hb dX0_renew_102 rfl (lv_at hl 1 rfl) ?_
              refine lv_iconst (v := 0) hx hb dX0_renew_103 (by decide) ?_
              refine va_put (D := D) (ci := 0) (v := .int 0) (ty := .int) (C := RX0) (T := TX0) (N := 9) hx hb hts hin_X0 tyX0 tyX0_ok nmX0 hown hK hP hD hS 0 rfl rfl 8 (by decide) hf_PressedPlains_Book_45 (fun _ h9 => h9) rfl (by decide +kernel) rfl rfl (Nat.le_of_ble_eq_true rfl) dX0_renew_104 (fun H locs hP hD hS => ?_)
              have hP : va_P D vwCl [(h, .inr (0, [.ref a0, .ref a1, .ref a2, .ref a3, .ref a4, .ref a5, .int 0, .int 0, .int 0])), (a0, .inl (cI, 128, .inl fi2)), (a1, .inl (cI, 128, .inl la2)), (a2, .inl (cI, 128, .inl Y.1)), (a3, .inl (cI, 128, .inl Y.2.1)), (a4, .inl (cI, 128, .inl Y.2.2.1)), (a5, .inl (cI, 128, .inl Y.2.2.2.1))] H := hP
              have hD : va_D A [(h, .inr (0, [.ref a0, .ref a1, .ref a2, .ref a3, .ref a4, .ref a5, .int 0, .int 0, .int 0])), (a0, .inl (cI, 128, .inl fi2)), (a1, .inl (cI, 128, .inl la2)), (a2, .inl (cI, 128, .inl Y.1)), (a3, .inl (cI, 128, .inl Y.2.1)), (a4, .inl (cI, 128, .inl Y.2.2.1)), (a5, .inl (cI, 128, .inl Y.2.2.2.1))] := hD
              exact pq_vret hQ hx hb hr hlocks hK hS hP hD dX0_renew_107 (by omega) (by omega) (⟨rfl, by have e1 : (fi2, la2) = sIter (upd fi 1 0, upd la 1 (n0 - 1)) 63 := (by rw [hX, show k1 - 1 = 63 by omega]); have e2 : Y = bFill fi2 la2 v0 B 127 := (by rw [hY, show kk - 1 = 127 by omega]); rw [← e1]; subst e2; rfl⟩)
        exact L2 _ 1 B (Nat.lt_succ_self _) (by decide) (by decide) rfl H locs ls hP hD hS (lv_sub hl [0, 1, 2, 3] rfl)
  exact L1 _ 1 (upd fi 1 0, upd la 1 (n0 - 1)) (Nat.lt_succ_self _) (by decide) (by decide) rfl H locs ls hP hD hS (lv_sub hl [0, 1, 2, 3] rfl)
