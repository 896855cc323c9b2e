set_option maxHeartbeats 4000000 in
set_option maxRecDepth 100000 in
/-- has an entry two below it -/
theorem mX0_hasParts (l : Launch) (D : va_G) (cI : ClassId) (h a0 a1 a2 a3 a4 a5 : Nat) (fi la : Nat → Int32) (B : BK) (e : Nat) (he : e < 128) : pq_M l yX0_hasParts wsX0_hasParts 0 0 0 0 D [(cI, .int)] pq_0 (bkW h a0 a1 a2 a3 a4 a5 cI fi la B) [.ref h, .int (nI e)] (fun v w1 => v = some (.int (if bHp fi la e then 1 else 0)) ∧ w1 = bkW h a0 a1 a2 a3 a4 a5 cI fi la B) := by
  refine pq_enter (cc := cX0_hasParts) (maxL := 2) (ret := (some .boolean)) (by decide) rfl (Nat.le_of_ble_eq_true rfl) ?_
  intro p ev s m args below meth cd A ls Q H locs hx hb hr hml hts hown hlocks hnm hK hP hD hS hA hE hl hQ
  have hl : lv_has ls 2 [(0, .ref h), (1, .int (nI e))] := hl
  have hP : va_P D vwCl [(h, .inr (0, [.ref a0, .ref a1, .ref a2, .ref a3, .ref a4, .ref a5, .int B.2.2.2.2.1, .int B.2.2.2.2.2.1, .int B.2.2.2.2.2.2])), (a0, .inl (cI, 128, .inl fi)), (a1, .inl (cI, 128, .inl la)), (a2, .inl (cI, 128, .inl B.1)), (a3, .inl (cI, 128, .inl B.2.1)), (a4, .inl (cI, 128, .inl B.2.2.1)), (a5, .inl (cI, 128, .inl B.2.2.2.1))] H := hP
  have hD : va_D A [(h, .inr (0, [.ref a0, .ref a1, .ref a2, .ref a3, .ref a4, .ref a5, .int B.2.2.2.2.1, .int B.2.2.2.2.2.1, .int B.2.2.2.2.2.2])), (a0, .inl (cI, 128, .inl fi)), (a1, .inl (cI, 128, .inl la)), (a2, .inl (cI, 128, .inl B.1)), (a3, .inl (cI, 128, .inl B.2.1)), (a4, .inl (cI, 128, .inl B.2.2.1)), (a5, .inl (cI, 128, .inl B.2.2.2.1))] := hD
  have hin_X0 : ∀ w ∈ wsX00, w ∈ wsX0_hasParts := by decide +kernel
  have hf_PressedPlains_Book_11 := hts (.fieldLink RX0 11 "PressedPlains$Book" "first" "[I") (by decide +kernel)
  have hf_PressedPlains_Book_15 := hts (.fieldLink RX0 15 "PressedPlains$Book" "last" "[I") (by decide +kernel)
  refine lv_iload_n hx hb dX0_hasParts_0 rfl (lv_at hl 1 rfl) ?_
  refine lv_bipush (v := 64) hx hb dX0_hasParts_1 (by decide) ?_
  refine lv_icmp_ge (tgt := 25) hx hb dX0_hasParts_3 (by decide) (fun c_1 => ?_) (fun c_1 => ?_)
  · refine lv_iconst (v := 0) hx hb dX0_hasParts_25 (by decide) ?_
    exact pq_zret hQ hx hb hr hlocks hK hS hP hD dX0_hasParts_26 (by omega) (by omega) (by decide) (⟨by rw [if_neg (show ¬ (bHp fi la e) from fun h => h.1 c_1)], rfl⟩)
  · refine lv_aload_n hx hb dX0_hasParts_6 rfl (lv_at hl 0 rfl) ?_
    refine va_get (D := D) (ci := 0) (v := .ref a0) (C := RX0) (T := TX0) (N := 9) hx hb hts hin_X0 hown hK hP 0 rfl rfl 0 (by decide) hf_PressedPlains_Book_11 (fun _ h9 => h9) rfl dX0_hasParts_7 ?_
    refine lv_iload_n hx hb dX0_hasParts_10 rfl (lv_at hl 1 rfl) ?_
    refine pq_iald hx hb hK hP 1 0 rfl rfl e (by omega) (by decide) dX0_hasParts_11 ?_
    refine lv_aload_n hx hb dX0_hasParts_12 rfl (lv_at hl 0 rfl) ?_
    refine va_get (D := D) (ci := 0) (v := .ref a1) (C := RX0) (T := TX0) (N := 9) hx hb hts hin_X0 hown hK hP 0 rfl rfl 1 (by decide) hf_PressedPlains_Book_15 (fun _ h9 => h9) rfl dX0_hasParts_13 ?_
    refine lv_iload_n hx hb dX0_hasParts_16 rfl (lv_at hl 1 rfl) ?_
    refine pq_iald hx hb hK hP 2 0 rfl rfl e (by omega) (by decide) dX0_hasParts_17 ?_
    refine lv_icmp_ge (tgt := 25) hx hb dX0_hasParts_18 (by decide) (fun c_2 => ?_) (fun c_2 => ?_)
    · refine lv_iconst (v := 0) hx hb dX0_hasParts_25 (by decide) ?_
      exact pq_zret hQ hx hb hr hlocks hK hS hP hD dX0_hasParts_26 (by omega) (by omega) (by decide) (⟨by rw [if_neg (show ¬ (bHp fi la e) from fun h => h.2 c_2)], rfl⟩)
    · refine lv_iconst (v := 1) hx hb dX0_hasParts_21 (by decide) ?_
      refine lv_goto (tgt := 26) hx hb dX0_hasParts_22 (by decide) ?_
      exact pq_zret hQ hx hb hr hlocks hK hS hP hD dX0_hasParts_26 (by omega) (by omega) (by decide) (⟨by rw [if_pos (show bHp fi la e from ⟨c_1, c_2⟩)], rfl⟩)

set_option maxHeartbeats 4000000 in
set_option maxRecDepth 100000 in
theorem mX0_isApart (l : Launch) (D : va_G) (cI : ClassId) (h a0 a1 a2 a3 a4 a5 : Nat) (fi la : Nat → Int32) (B : BK) (e : Nat) (a b : Int32) (he : e < 128) : pq_M l yX0_isApart wsX0_isApart 0 0 0 0 D [(cI, .int)] pq_0 (bkW h a0 a1 a2 a3 a4 a5 cI fi la B) [.ref h, .int (nI e), .int a, .int b] (fun v w1 => v = some (.int (if bAp fi la e a b then 1 else 0)) ∧ w1 = bkW h a0 a1 a2 a3 a4 a5 cI fi la B) := by
  refine pq_enter (cc := cX0_isApart) (maxL := 4) (ret := (some .boolean)) (by decide) rfl (Nat.le_of_ble_eq_true rfl) ?_
  intro p ev s m args below meth cd A ls Q H locs hx hb hr hml hts hown hlocks hnm hK hP hD hS hA hE hl hQ
  have hl : lv_has ls 4 [(0, .ref h), (1, .int (nI e)), (2, .int a), (3, .int b)] := hl
  have hP : va_P D vwCl [(h, .inr (0, [.ref a0, .ref a1, .ref a2, .ref a3, .ref a4, .ref a5, .int B.2.2.2.2.1, .int B.2.2.2.2.2.1, .int B.2.2.2.2.2.2])), (a0, .inl (cI, 128, .inl fi)), (a1, .inl (cI, 128, .inl la)), (a2, .inl (cI, 128, .inl B.1)), (a3, .inl (cI, 128, .inl B.2.1)), (a4, .inl (cI, 128, .inl B.2.2.1)), (a5, .inl (cI, 128, .inl B.2.2.2.1))] H := hP
  have hD : va_D A [(h, .inr (0, [.ref a0, .ref a1, .ref a2, .ref a3, .ref a4, .ref a5, .int B.2.2.2.2.1, .int B.2.2.2.2.2.1, .int B.2.2.2.2.2.2])), (a0, .inl (cI, 128, .inl fi)), (a1, .inl (cI, 128, .inl la)), (a2, .inl (cI, 128, .inl B.1)), (a3, .inl (cI, 128, .inl B.2.1)), (a4, .inl (cI, 128, .inl B.2.2.1)), (a5, .inl (cI, 128, .inl B.2.2.2.1))] := hD
  have hin_X0 : ∀ w ∈ wsX00, w ∈ wsX0_isApart := by decide +kernel
  have hf_PressedPlains_Book_15 := hts (.fieldLink RX0 15 "PressedPlains$Book" "last" "[I") (by decide +kernel)
  have hf_PressedPlains_Book_11 := hts (.fieldLink RX0 11 "PressedPlains$Book" "first" "[I") (by decide +kernel)
  refine lv_aload_n hx hb dX0_isApart_0 rfl (lv_at hl 0 rfl) ?_
  refine va_get (D := D) (ci := 0) (v := .ref a1) (C := RX0) (T := TX0) (N := 9) hx hb hts hin_X0 hown hK hP 0 rfl rfl 1 (by decide) hf_PressedPlains_Book_15 (fun _ h9 => h9) rfl dX0_isApart_1 ?_
  refine lv_iload_n hx hb dX0_isApart_4 rfl (lv_at hl 1 rfl) ?_
  refine pq_iald hx hb hK hP 2 0 rfl rfl e (by omega) (by decide) dX0_isApart_5 ?_
  refine lv_iload_n hx hb dX0_isApart_6 rfl (lv_at hl 2 rfl) ?_
  refine lv_icmp_lt (tgt := 20) hx hb dX0_isApart_7 (by decide) (fun c_1 => ?_) (fun c_1 => ?_)
  · refine lv_iconst (v := 1) hx hb dX0_isApart_20 (by decide) ?_
    refine lv_goto (tgt := 25) hx hb dX0_isApart_21 (by decide) ?_
    exact pq_zret hQ hx hb hr hlocks hK hS hP hD dX0_isApart_25 (by omega) (by omega) (by decide) (⟨by rw [if_pos (show bAp fi la e a b from Or.inl c_1)], rfl⟩)
  · refine lv_aload_n hx hb dX0_isApart_10 rfl (lv_at hl 0 rfl) ?_
    refine va_get (D := D) (ci := 0) (v := .ref a0) (C := RX0) (T := TX0) (N := 9) hx hb hts hin_X0 hown hK hP 0 rfl rfl 0 (by decide) hf_PressedPlains_Book_11 (fun _ h9 => h9) rfl dX0_isApart_11 ?_
    refine lv_iload_n hx hb dX0_isApart_14 rfl (lv_at hl 1 rfl) ?_
    refine pq_iald hx hb hK hP 1 0 rfl rfl e (by omega) (by decide) dX0_isApart_15 ?_
    refine lv_iload_n hx hb dX0_isApart_16 rfl (lv_at hl 3 rfl) ?_
    refine lv_icmp_le (tgt := 24) hx hb dX0_isApart_17 (by decide) (fun c_2 => ?_) (fun c_2 => ?_)
    · refine lv_iconst (v := 0) hx hb dX0_isApart_24 (by decide) ?_
      exact pq_zret hQ hx hb hr hlocks hK hS hP hD dX0_isApart_25 (by omega) (by omega) (by decide) (⟨by rw [if_neg (show ¬ (bAp fi la e a b) from fun h => h.elim c_1 (fun h => h c_2))], rfl⟩)
    · refine lv_iconst (v := 1) hx hb dX0_isApart_20 (by decide) ?_
      refine lv_goto (tgt := 25) hx hb dX0_isApart_21 (by decide) ?_
      exact pq_zret hQ hx hb hr hlocks hK hS hP hD dX0_isApart_25 (by omega) (by omega) (by decide) (⟨by rw [if_pos (show bAp fi la e a b from Or.inr c_2)], rfl⟩)

set_option maxHeartbeats 4000000 in
set_option maxRecDepth 100000 in
theorem mX0_isWithin (l : Launch) (D : va_G) (cI : ClassId) (h a0 a1 a2 a3 a4 a5 : Nat) (fi la : Nat → Int32) (B : BK) (e : Nat) (a b : Int32) (he : e < 128) : pq_M l yX0_isWithin wsX0_isWithin 0 0 0 0 D [(cI, .int)] pq_0 (bkW h a0 a1 a2 a3 a4 a5 cI fi la B) [.ref h, .int (nI e), .int a, .int b] (fun v w1 => v = some (.int (if bWi fi la e a b then 1 else 0)) ∧ w1 = bkW h a0 a1 a2 a3 a4 a5 cI fi la B) := by
  refine pq_enter (cc := cX0_isWithin) (maxL := 4) (ret := (some .boolean)) (by decide) rfl (Nat.le_of_ble_eq_true rfl) ?_
  intro p ev s m args below meth cd A ls Q H locs hx hb hr hml hts hown hlocks hnm hK hP hD hS hA hE hl hQ
  have hl : lv_has ls 4 [(0, .ref h), (1, .int (nI e)), (2, .int a), (3, .int b)] := hl
  have hP : va_P D vwCl [(h, .inr (0, [.ref a0, .ref a1, .ref a2, .ref a3, .ref a4, .ref a5, .int B.2.2.2.2.1, .int B.2.2.2.2.2.1, .int B.2.2.2.2.2.2])), (a0, .inl (cI, 128, .inl fi)), (a1, .inl (cI, 128, .inl la)), (a2, .inl (cI, 128, .inl B.1)), (a3, .inl (cI, 128, .inl B.2.1)), (a4, .inl (cI, 128, .inl B.2.2.1)), (a5, .inl (cI, 128, .inl B.2.2.2.1))] H := hP
  have hD : va_D A [(h, .inr (0, [.ref a0, .ref a1, .ref a2, .ref a3, .ref a4, .ref a5, .int B.2.2.2.2.1, .int B.2.2.2.2.2.1, .int B.2.2.2.2.2.2])), (a0, .inl (cI, 128, .inl fi)), (a1, .inl (cI, 128, .inl la)), (a2, .inl (cI, 128, .inl B.1)), (a3, .inl (cI, 128, .inl B.2.1)), (a4, .inl (cI, 128, .inl B.2.2.1)), (a5, .inl (cI, 128, .inl B.2.2.2.1))] := hD
  have hin_X0 : ∀ w ∈ wsX00, w ∈ wsX0_isWithin := by decide +kernel
  have hf_PressedPlains_Book_11 := hts (.fieldLink RX0 11 "PressedPlains$Book" "first" "[I") (by decide +kernel)
  have hf_PressedPlains_Book_15 := hts (.fieldLink RX0 15 "PressedPlains$Book" "last" "[I") (by decide +kernel)
  refine lv_iload_n hx hb dX0_isWithin_0 rfl (lv_at hl 2 rfl) ?_
  refine lv_aload_n hx hb dX0_isWithin_1 rfl (lv_at hl 0 rfl) ?_
  refine va_get (D := D) (ci := 0) (v := .ref a0) (C := RX0) (T := TX0) (N := 9) hx hb hts hin_X0 hown hK hP 0 rfl rfl 0 (by decide) hf_PressedPlains_Book_11 (fun _ h9 => h9) rfl dX0_isWithin_2 ?_
  refine lv_iload_n hx hb dX0_isWithin_5 rfl (lv_at hl 1 rfl) ?_
  refine pq_iald hx hb hK hP 1 0 rfl rfl e (by omega) (by decide) dX0_isWithin_6 ?_
  refine lv_icmp_gt (tgt := 24) hx hb dX0_isWithin_7 (by decide) (fun c_1 => ?_) (fun c_1 => ?_)
  · refine lv_iconst (v := 0) hx hb dX0_isWithin_24 (by decide) ?_
    exact pq_zret hQ hx hb hr hlocks hK hS hP hD dX0_isWithin_25 (by omega) (by omega) (by decide) (⟨by rw [if_neg (show ¬ (bWi fi la e a b) from fun h => h.1 c_1)], rfl⟩)
  · refine lv_aload_n hx hb dX0_isWithin_10 rfl (lv_at hl 0 rfl) ?_
    refine va_get (D := D) (ci := 0) (v := .ref a1) (C := RX0) (T := TX0) (N := 9) hx hb hts hin_X0 hown hK hP 0 rfl rfl 1 (by decide) hf_PressedPlains_Book_15 (fun _ h9 => h9) rfl dX0_isWithin_11 ?_
    refine lv_iload_n hx hb dX0_isWithin_14 rfl (lv_at hl 1 rfl) ?_
    refine pq_iald hx hb hK hP 2 0 rfl rfl e (by omega) (by decide) dX0_isWithin_15 ?_
    refine lv_iload_n hx hb dX0_isWithin_16 rfl (lv_at hl 3 rfl) ?_
    refine lv_icmp_gt (tgt := 24) hx hb dX0_isWithin_17 (by decide) (fun c_2 => ?_) (fun c_2 => ?_)
    · refine lv_iconst (v := 0) hx hb dX0_isWithin_24 (by decide) ?_
      exact pq_zret hQ hx hb hr hlocks hK hS hP hD dX0_isWithin_25 (by omega) (by omega) (by decide) (⟨by rw [if_neg (show ¬ (bWi fi la e a b) from fun h => h.2 c_2)], rfl⟩)
    · refine lv_iconst (v := 1) hx hb dX0_isWithin_20 (by decide) ?_
      refine lv_goto (tgt := 25) hx hb dX0_isWithin_21 (by decide) ?_
      exact pq_zret hQ hx hb hr hlocks hK hS hP hD dX0_isWithin_25 (by omega) (by omega) (by decide) (⟨by rw [if_pos (show bWi fi la e a b from ⟨c_1, c_2⟩)], rfl⟩)

set_option maxHeartbeats 4000000 in
set_option maxRecDepth 100000 in
theorem mX0_lags (l : Launch) (D : va_G) (cI : ClassId) (h a0 a1 a2 a3 a4 a5 : Nat) (fi la : Nat → Int32) (B : BK) (e : Nat) (he : e < 128) : pq_M l yX0_lags wsX0_lags 0 0 0 0 D [(cI, .int)] pq_0 (bkW h a0 a1 a2 a3 a4 a5 cI fi la B) [.ref h, .int (nI e)] (fun v w1 => v = some (.int (if bLag B e then 1 else 0)) ∧ w1 = bkW h a0 a1 a2 a3 a4 a5 cI fi la B) := by
  refine pq_enter (cc := cX0_lags) (maxL := 2) (ret := (some .boolean)) (by decide) rfl (Nat.le_of_ble_eq_true rfl) ?_
  intro p ev s m args below meth cd A ls Q H locs hx hb hr hml hts hown hlocks hnm hK hP hD hS hA hE hl hQ
  have hl : lv_has ls 2 [(0, .ref h), (1, .int (nI e))] := hl
  have hP : va_P D vwCl [(h, .inr (0, [.ref a0, .ref a1, .ref a2, .ref a3, .ref a4, .ref a5, .int B.2.2.2.2.1, .int B.2.2.2.2.2.1, .int B.2.2.2.2.2.2])), (a0, .inl (cI, 128, .inl fi)), (a1, .inl (cI, 128, .inl la)), (a2, .inl (cI, 128, .inl B.1)), (a3, .inl (cI, 128, .inl B.2.1)), (a4, .inl (cI, 128, .inl B.2.2.1)), (a5, .inl (cI, 128, .inl B.2.2.2.1))] H := hP
  have hD : va_D A [(h, .inr (0, [.ref a0, .ref a1, .ref a2, .ref a3, .ref a4, .ref a5, .int B.2.2.2.2.1, .int B.2.2.2.2.2.1, .int B.2.2.2.2.2.2])), (a0, .inl (cI, 128, .inl fi)), (a1, .inl (cI, 128, .inl la)), (a2, .inl (cI, 128, .inl B.1)), (a3, .inl (cI, 128, .inl B.2.1)), (a4, .inl (cI, 128, .inl B.2.2.1)), (a5, .inl (cI, 128, .inl B.2.2.2.1))] := hD
  have hin_X0 : ∀ w ∈ wsX00, w ∈ wsX0_lags := by decide +kernel
  have hf_PressedPlains_Book_18 := hts (.fieldLink RX0 18 "PressedPlains$Book" "greatest" "[I") (by decide +kernel)
  refine lv_aload_n hx hb dX0_lags_0 rfl (lv_at hl 0 rfl) ?_
  refine va_get (D := D) (ci := 0) (v := .ref a2) (C := RX0) (T := TX0) (N := 9) hx hb hts hin_X0 hown hK hP 0 rfl rfl 2 (by decide) hf_PressedPlains_Book_18 (fun _ h9 => h9) rfl dX0_lags_1 ?_
  refine lv_iload_n hx hb dX0_lags_4 rfl (lv_at hl 1 rfl) ?_
  refine pq_iald hx hb hK hP 3 0 rfl rfl e (by omega) (by decide) dX0_lags_5 ?_
  refine lv_aload_n hx hb dX0_lags_6 rfl (lv_at hl 0 rfl) ?_
  refine va_get (D := D) (ci := 0) (v := .ref a2) (C := RX0) (T := TX0) (N := 9) hx hb hts hin_X0 hown hK hP 0 rfl rfl 2 (by decide) hf_PressedPlains_Book_18 (fun _ h9 => h9) rfl dX0_lags_7 ?_
  refine lv_iload_n hx hb dX0_lags_10 rfl (lv_at hl 1 rfl) ?_
  refine lv_iconst (v := 2) hx hb dX0_lags_11 (by decide) ?_
  refine lv_idiv hx hb dX0_lags_12 (by decide) ?_
  refine pq_top (nI (e / 2)) (pk_div (d := 2) (by omega) (by decide) (by decide)) ?_
  refine pq_iald hx hb hK hP 3 0 rfl rfl (e / 2) (by omega) (by decide) dX0_lags_13 ?_
  refine lv_icmp_le (tgt := 21) hx hb dX0_lags_14 (by decide) (fun c_1 => ?_) (fun c_1 => ?_)
  · refine lv_iconst (v := 0) hx hb dX0_lags_21 (by decide) ?_
    exact pq_zret hQ hx hb hr hlocks hK hS hP hD dX0_lags_22 (by omega) (by omega) (by decide) (⟨by rw [if_neg (show ¬ (bLag B e) from fun h => h c_1)], rfl⟩)
  · refine lv_iconst (v := 1) hx hb dX0_lags_17 (by decide) ?_
    refine lv_goto (tgt := 22) hx hb dX0_lags_18 (by decide) ?_
    exact pq_zret hQ hx hb hr hlocks hK hS hP hD dX0_lags_22 (by omega) (by omega) (by decide) (⟨by rw [if_pos (show bLag B e from c_1)], rfl⟩)

set_option maxHeartbeats 4000000 in
set_option maxRecDepth 100000 in
theorem mX0_manyAt (l : Launch) (D : va_G) (cI : ClassId) (h a0 a1 a2 a3 a4 a5 : Nat) (fi la : Nat → Int32) (B : BK) (e : Nat) (t : Int32) (he : e < 128) : pq_M l yX0_manyAt wsX0_manyAt 0 0 0 0 D [(cI, .int)] pq_0 (bkW h a0 a1 a2 a3 a4 a5 cI fi la B) [.ref h, .int (nI e), .int t] (fun v w1 => v = some (.int (bMany B.1 B.2.2.1 e t)) ∧ w1 = bkW h a0 a1 a2 a3 a4 a5 cI fi la B) := by
  refine pq_enter (cc := cX0_manyAt) (maxL := 3) (ret := (some .int)) (by decide) rfl (Nat.le_of_ble_eq_true rfl) ?_
  intro p ev s m args below meth cd A ls Q H locs hx hb hr hml hts hown hlocks hnm hK hP hD hS hA hE hl hQ
  have hl : lv_has ls 3 [(0, .ref h), (1, .int (nI e)), (2, .int t)] := hl
  have hP : va_P D vwCl [(h, .inr (0, [.ref a0, .ref a1, .ref a2, .ref a3, .ref a4, .ref a5, .int B.2.2.2.2.1, .int B.2.2.2.2.2.1, .int B.2.2.2.2.2.2])), (a0, .inl (cI, 128, .inl fi)), (a1, .inl (cI, 128, .inl la)), (a2, .inl (cI, 128, .inl B.1)), (a3, .inl (cI, 128, .inl B.2.1)), (a4, .inl (cI, 128, .inl B.2.2.1)), (a5, .inl (cI, 128, .inl B.2.2.2.1))] H := hP
  have hD : va_D A [(h, .inr (0, [.ref a0, .ref a1, .ref a2, .ref a3, .ref a4, .ref a5, .int B.2.2.2.2.1, .int B.2.2.2.2.2.1, .int B.2.2.2.2.2.2])), (a0, .inl (cI, 128, .inl fi)), (a1, .inl (cI, 128, .inl la)), (a2, .inl (cI, 128, .inl B.1)), (a3, .inl (cI, 128, .inl B.2.1)), (a4, .inl (cI, 128, .inl B.2.2.1)), (a5, .inl (cI, 128, .inl B.2.2.2.1))] := hD
  have hin_X0 : ∀ w ∈ wsX00, w ∈ wsX0_manyAt := by decide +kernel
  have hf_PressedPlains_Book_18 := hts (.fieldLink RX0 18 "PressedPlains$Book" "greatest" "[I") (by decide +kernel)
  have hf_PressedPlains_Book_24 := hts (.fieldLink RX0 24 "PressedPlains$Book" "many" "[I") (by decide +kernel)
  refine lv_aload_n hx hb dX0_manyAt_0 rfl (lv_at hl 0 rfl) ?_
  refine va_get (D := D) (ci := 0) (v := .ref a2) (C := RX0) (T := TX0) (N := 9) hx hb hts hin_X0 hown hK hP 0 rfl rfl 2 (by decide) hf_PressedPlains_Book_18 (fun _ h9 => h9) rfl dX0_manyAt_1 ?_
  refine lv_iload_n hx hb dX0_manyAt_4 rfl (lv_at hl 1 rfl) ?_
  refine pq_iald hx hb hK hP 3 0 rfl rfl e (by omega) (by decide) dX0_manyAt_5 ?_
  refine lv_iload_n hx hb dX0_manyAt_6 rfl (lv_at hl 2 rfl) ?_
  refine lv_icmp_ne (tgt := 19) hx hb dX0_manyAt_7 (by decide) (fun c_1 => ?_) (fun c_1 => ?_)
  · refine lv_iconst (v := 0) hx hb dX0_manyAt_19 (by decide) ?_
    exact pq_iret hQ hx hb hr hlocks hK hS hP hD dX0_manyAt_20 (by omega) (by omega) (⟨by unfold bMany; rw [if_neg c_1], rfl⟩)
  · refine lv_aload_n hx hb dX0_manyAt_10 rfl (lv_at hl 0 rfl) ?_
    refine va_get (D := D) (ci := 0) (v := .ref a4) (C := RX0) (T := TX0) (N := 9) hx hb hts hin_X0 hown hK hP 0 rfl rfl 4 (by decide) hf_PressedPlains_Book_24 (fun _ h9 => h9) rfl dX0_manyAt_11 ?_
    refine lv_iload_n hx hb dX0_manyAt_14 rfl (lv_at hl 1 rfl) ?_
    refine pq_iald hx hb hK hP 5 0 rfl rfl e (by omega) (by decide) dX0_manyAt_15 ?_
    refine lv_goto (tgt := 20) hx hb dX0_manyAt_16 (by decide) ?_
    exact pq_iret hQ hx hb hr hlocks hK hS hP hD dX0_manyAt_20 (by omega) (by omega) (⟨by unfold bMany; rw [if_pos c_1], rfl⟩)

set_option maxHeartbeats 4000000 in
set_option maxRecDepth 100000 in
theorem mX0_greatestLessThan (l : Launch) (D : va_G) (cI : ClassId) (h a0 a1 a2 a3 a4 a5 : Nat) (fi la : Nat → Int32) (B : BK) (t : Int32) (e : Nat) (he : e < 128) : pq_M l yX0_greatestLessThan wsX0_greatestLessThan 0 0 0 0 D [(cI, .int)] pq_0 (bkW h a0 a1 a2 a3 a4 a5 cI fi la B) [.ref h, .int t, .int (nI e)] (fun v w1 => v = some (.int (bLess B.1 B.2.1 t e)) ∧ w1 = bkW h a0 a1 a2 a3 a4 a5 cI fi la B) := by
  refine pq_enter (cc := cX0_greatestLessThan) (maxL := 3) (ret := (some .int)) (by decide) rfl (Nat.le_of_ble_eq_true rfl) ?_
  intro p ev s m args below meth cd A ls Q H locs hx hb hr hml hts hown hlocks hnm hK hP hD hS hA hE hl hQ
  have hl : lv_has ls 3 [(0, .ref h), (1, .int t), (2, .int (nI e))] := hl
  have hP : va_P D vwCl [(h, .inr (0, [.ref a0, .ref a1, .ref a2, .ref a3, .ref a4, .ref a5, .int B.2.2.2.2.1, .int B.2.2.2.2.2.1, .int B.2.2.2.2.2.2])), (a0, .inl (cI, 128, .inl fi)), (a1, .inl (cI, 128, .inl la)), (a2, .inl (cI, 128, .inl B.1)), (a3, .inl (cI, 128, .inl B.2.1)), (a4, .inl (cI, 128, .inl B.2.2.1)), (a5, .inl (cI, 128, .inl B.2.2.2.1))] H := hP
  have hD : va_D A [(h, .inr (0, [.ref a0, .ref a1, .ref a2, .ref a3, .ref a4, .ref a5, .int B.2.2.2.2.1, .int B.2.2.2.2.2.1, .int B.2.2.2.2.2.2])), (a0, .inl (cI, 128, .inl fi)), (a1, .inl (cI, 128, .inl la)), (a2, .inl (cI, 128, .inl B.1)), (a3, .inl (cI, 128, .inl B.2.1)), (a4, .inl (cI, 128, .inl B.2.2.1)), (a5, .inl (cI, 128, .inl B.2.2.2.1))] := hD
  have hin_X0 : ∀ w ∈ wsX00, w ∈ wsX0_greatestLessThan := by decide +kernel
  have hf_PressedPlains_Book_18 := hts (.fieldLink RX0 18 "PressedPlains$Book" "greatest" "[I") (by decide +kernel)
  have hf_PressedPlains_Book_21 := hts (.fieldLink RX0 21 "PressedPlains$Book" "second" "[I") (by decide +kernel)
  refine lv_aload_n hx hb dX0_greatestLessThan_0 rfl (lv_at hl 0 rfl) ?_
  refine va_get (D := D) (ci := 0) (v := .ref a2) (C := RX0) (T := TX0) (N := 9) hx hb hts hin_X0 hown hK hP 0 rfl rfl 2 (by decide) hf_PressedPlains_Book_18 (fun _ h9 => h9) rfl dX0_greatestLessThan_1 ?_
  refine lv_iload_n hx hb dX0_greatestLessThan_4 rfl (lv_at hl 2 rfl) ?_
  refine pq_iald hx hb hK hP 3 0 rfl rfl e (by omega) (by decide) dX0_greatestLessThan_5 ?_
  refine lv_iload_n hx hb dX0_greatestLessThan_6 rfl (lv_at hl 1 rfl) ?_
  refine lv_icmp_ge (tgt := 19) hx hb dX0_greatestLessThan_7 (by decide) (fun c_1 => ?_) (fun c_1 => ?_)
  · refine lv_aload_n hx hb dX0_greatestLessThan_19 rfl (lv_at hl 0 rfl) ?_
    refine va_get (D := D) (ci := 0) (v := .ref a3) (C := RX0) (T := TX0) (N := 9) hx hb hts hin_X0 hown hK hP 0 rfl rfl 3 (by decide) hf_PressedPlains_Book_21 (fun _ h9 => h9) rfl dX0_greatestLessThan_20 ?_
    refine lv_iload_n hx hb dX0_greatestLessThan_23 rfl (lv_at hl 2 rfl) ?_
    refine pq_iald hx hb hK hP 4 0 rfl rfl e (by omega) (by decide) dX0_greatestLessThan_24 ?_
    exact pq_iret hQ hx hb hr hlocks hK hS hP hD dX0_greatestLessThan_25 (by omega) (by omega) (⟨by unfold bLess; rw [if_pos c_1], rfl⟩)
  · refine lv_aload_n hx hb dX0_greatestLessThan_10 rfl (lv_at hl 0 rfl) ?_
    refine va_get (D := D) (ci := 0) (v := .ref a2) (C := RX0) (T := TX0) (N := 9) hx hb hts hin_X0 hown hK hP 0 rfl rfl 2 (by decide) hf_PressedPlains_Book_18 (fun _ h9 => h9) rfl dX0_greatestLessThan_11 ?_
    refine lv_iload_n hx hb dX0_greatestLessThan_14 rfl (lv_at hl 2 rfl) ?_
    refine pq_iald hx hb hK hP 3 0 rfl rfl e (by omega) (by decide) dX0_greatestLessThan_15 ?_
    refine lv_goto (tgt := 25) hx hb dX0_greatestLessThan_16 (by decide) ?_
    exact pq_iret hQ hx hb hr hlocks hK hS hP hD dX0_greatestLessThan_25 (by omega) (by omega) (⟨by unfold bLess; rw [if_neg c_1], rfl⟩)

set_option maxHeartbeats 4000000 in
set_option maxRecDepth 100000 in
theorem mX0_pressDown (l : Launch) (D : va_G) (cI : ClassId) (h a0 a1 a2 a3 a4 a5 : Nat) (fi la : Nat → Int32) (B : BK) (e : Nat) (c0 : Int32) (he : e < 128) : pq_M l yX0_pressDown wsX0_pressDown 0 0 0 0 D [(cI, .int)] pq_0 (bkW h a0 a1 a2 a3 a4 a5 cI fi la B) [.ref h, .int (nI e), .int c0] (fun v w1 => v = none ∧ w1 = bkW h a0 a1 a2 a3 a4 a5 cI fi la (bPress B e c0)) := by
  refine pq_enter (cc := cX0_pressDown) (maxL := 3) (ret := none) (by decide) rfl (Nat.le_of_ble_eq_true rfl) ?_
  intro p ev s m args below meth cd A ls Q H locs hx hb hr hml hts hown hlocks hnm hK hP hD hS hA hE hl hQ
  have hl : lv_has ls 3 [(0, .ref h), (1, .int (nI e)), (2, .int c0)] := hl
  have hP : va_P D vwCl [(h, .inr (0, [.ref a0, .ref a1, .ref a2, .ref a3, .ref a4, .ref a5, .int B.2.2.2.2.1, .int B.2.2.2.2.2.1, .int B.2.2.2.2.2.2])), (a0, .inl (cI, 128, .inl fi)), (a1, .inl (cI, 128, .inl la)), (a2, .inl (cI, 128, .inl B.1)), (a3, .inl (cI, 128, .inl B.2.1)), (a4, .inl (cI, 128, .inl B.2.2.1)), (a5, .inl (cI, 128, .inl B.2.2.2.1))] H := hP
  have hD : va_D A [(h, .inr (0, [.ref a0, .ref a1, .ref a2, .ref a3, .ref a4, .ref a5, .int B.2.2.2.2.1, .int B.2.2.2.2.2.1, .int B.2.2.2.2.2.2])), (a0, .inl (cI, 128, .inl fi)), (a1, .inl (cI, 128, .inl la)), (a2, .inl (cI, 128, .inl B.1)), (a3, .inl (cI, 128, .inl B.2.1)), (a4, .inl (cI, 128, .inl B.2.2.1)), (a5, .inl (cI, 128, .inl B.2.2.2.1))] := hD
  have hin_X0 : ∀ w ∈ wsX00, w ∈ wsX0_pressDown := by decide +kernel
  have hf_PressedPlains_Book_27 := hts (.fieldLink RX0 27 "PressedPlains$Book" "sum" "[I") (by decide +kernel)
  have hf_PressedPlains_Book_18 := hts (.fieldLink RX0 18 "PressedPlains$Book" "greatest" "[I") (by decide +kernel)
  have hf_PressedPlains_Book_24 := hts (.fieldLink RX0 24 "PressedPlains$Book" "many" "[I") (by decide +kernel)
  refine lv_aload_n hx hb dX0_pressDown_0 rfl (lv_at hl 0 rfl) ?_
  refine va_get (D := D) (ci := 0) (v := .ref a5) (C := RX0) (T := TX0) (N := 9) hx hb hts hin_X0 hown hK hP 0 rfl rfl 5 (by decide) hf_PressedPlains_Book_27 (fun _ h9 => h9) rfl dX0_pressDown_1 ?_
  refine lv_iload_n hx hb dX0_pressDown_4 rfl (lv_at hl 1 rfl) ?_
  refine lv_dup2_11 hx hb dX0_pressDown_5 rfl rfl ?_
  refine pq_iald hx hb hK hP 6 0 rfl rfl e (by omega) (by decide) dX0_pressDown_6 ?_
  refine lv_aload_n hx hb dX0_pressDown_7 rfl (lv_at hl 0 rfl) ?_
  refine va_get (D := D) (ci := 0) (v := .ref a2) (C := RX0) (T := TX0) (N := 9) hx hb hts hin_X0 hown hK hP 0 rfl rfl 2 (by decide) hf_PressedPlains_Book_18 (fun _ h9 => h9) rfl dX0_pressDown_8 ?_
  refine lv_iload_n hx hb dX0_pressDown_11 rfl (lv_at hl 1 rfl) ?_
  refine pq_iald hx hb hK hP 3 0 rfl rfl e (by omega) (by decide) dX0_pressDown_12 ?_
  refine lv_iload_n hx hb dX0_pressDown_13 rfl (lv_at hl 2 rfl) ?_
  refine lv_isub hx hb dX0_pressDown_14 ?_
  refine lv_aload_n hx hb dX0_pressDown_15 rfl (lv_at hl 0 rfl) ?_
  refine va_get (D := D) (ci := 0) (v := .ref a4) (C := RX0) (T := TX0) (N := 9) hx hb hts hin_X0 hown hK hP 0 rfl rfl 4 (by decide) hf_PressedPlains_Book_24 (fun _ h9 => h9) rfl dX0_pressDown_16 ?_
  refine lv_iload_n hx hb dX0_pressDown_19 rfl (lv_at hl 1 rfl) ?_
  refine pq_iald hx hb hK hP 5 0 rfl rfl e (by omega) (by decide) dX0_pressDown_20 ?_
  refine lv_imul hx hb dX0_pressDown_21 ?_
  refine lv_isub hx hb dX0_pressDown_22 ?_
  refine pq_iast hx hb hK hP hD hS 6 0 rfl rfl e (by omega) (by decide) dX0_pressDown_23 (fun H locs hP hD hS => ?_)
  have hP : va_P D vwCl [(h, .inr (0, [.ref a0, .ref a1, .ref a2, .ref a3, .ref a4, .ref a5, .int B.2.2.2.2.1, .int B.2.2.2.2.2.1, .int B.2.2.2.2.2.2])), (a0, .inl (cI, 128, .inl fi)), (a1, .inl (cI, 128, .inl la)), (a2, .inl (cI, 128, .inl B.1)), (a3, .inl (cI, 128, .inl B.2.1)), (a4, .inl (cI, 128, .inl B.2.2.1)), (a5, .inl (cI, 128, .inl (upd B.2.2.2.1 e ((B.2.2.2.1 e) - (((B.1 e) - c0) * (B.2.2.1 e))))))] H := hP
  have hD : va_D A [(h, .inr (0, [.ref a0, .ref a1, .ref a2, .ref a3, .ref a4, .ref a5, .int B.2.2.2.2.1, .int B.2.2.2.2.2.1, .int B.2.2.2.2.2.2])), (a0, .inl (cI, 128, .inl fi)), (a1, .inl (cI, 128, .inl la)), (a2, .inl (cI, 128, .inl B.1)), (a3, .inl (cI, 128, .inl B.2.1)), (a4, .inl (cI, 128, .inl B.2.2.1)), (a5, .inl (cI, 128, .inl (upd B.2.2.2.1 e ((B.2.2.2.1 e) - (((B.1 e) - c0) * (B.2.2.1 e))))))] := hD
  refine lv_aload_n hx hb dX0_pressDown_24 rfl (lv_at hl 0 rfl) ?_
  refine va_get (D := D) (ci := 0) (v := .ref a2) (C := RX0) (T := TX0) (N := 9) hx hb hts hin_X0 hown hK hP 0 rfl rfl 2 (by decide) hf_PressedPlains_Book_18 (fun _ h9 => h9) rfl dX0_pressDown_25 ?_
  refine lv_iload_n hx hb dX0_pressDown_28 rfl (lv_at hl 1 rfl) ?_
  refine lv_iload_n hx hb dX0_pressDown_29 rfl (lv_at hl 2 rfl) ?_
  refine pq_iast hx hb hK hP hD hS 3 0 rfl rfl e (by omega) (by decide) dX0_pressDown_30 (fun H locs hP hD hS => ?_)
  have hP : va_P D vwCl [(h, .inr (0, [.ref a0, .ref a1, .ref a2, .ref a3, .ref a4, .ref a5, .int B.2.2.2.2.1, .int B.2.2.2.2.2.1, .int B.2.2.2.2.2.2])), (a0, .inl (cI, 128, .inl fi)), (a1, .inl (cI, 128, .inl la)), (a2, .inl (cI, 128, .inl (upd B.1 e c0))), (a3, .inl (cI, 128, .inl B.2.1)), (a4, .inl (cI, 128, .inl B.2.2.1)), (a5, .inl (cI, 128, .inl (upd B.2.2.2.1 e ((B.2.2.2.1 e) - (((B.1 e) - c0) * (B.2.2.1 e))))))] H := hP
  have hD : va_D A [(h, .inr (0, [.ref a0, .ref a1, .ref a2, .ref a3, .ref a4, .ref a5, .int B.2.2.2.2.1, .int B.2.2.2.2.2.1, .int B.2.2.2.2.2.2])), (a0, .inl (cI, 128, .inl fi)), (a1, .inl (cI, 128, .inl la)), (a2, .inl (cI, 128, .inl (upd B.1 e c0))), (a3, .inl (cI, 128, .inl B.2.1)), (a4, .inl (cI, 128, .inl B.2.2.1)), (a5, .inl (cI, 128, .inl (upd B.2.2.2.1 e ((B.2.2.2.1 e) - (((B.1 e) - c0) * (B.2.2.1 e))))))] := hD
  exact pq_vret hQ hx hb hr hlocks hK hS hP hD dX0_pressDown_31 (by omega) (by omega) (⟨rfl, rfl⟩)

set_option maxHeartbeats 4000000 in
set_option maxRecDepth 100000 in
theorem mX0_countVisit (l : Launch) (D : va_G) (cI : ClassId) (h a0 a1 a2 a3 a4 a5 : Nat) (fi la : Nat → Int32) (B : BK) : pq_M l yX0_countVisit wsX0_countVisit 0 0 0 0 D [(cI, .int)] pq_0 (bkW h a0 a1 a2 a3 a4 a5 cI fi la B) [.ref h] (fun v w1 => v = none ∧ w1 = bkW h a0 a1 a2 a3 a4 a5 cI fi la (bVisit B)) := by
  refine pq_enter (cc := cX0_countVisit) (maxL := 1) (ret := none) (by decide) rfl (Nat.le_of_ble_eq_true rfl) ?_
  intro p ev s m args below meth cd A ls Q H locs hx hb hr hml hts hown hlocks hnm hK hP hD hS hA hE hl hQ
  have hl : lv_has ls 1 [(0, .ref h)] := hl
  have hP : va_P D vwCl [(h, .inr (0, [.ref a0, .ref a1, .ref a2, .ref a3, .ref a4, .ref a5, .int B.2.2.2.2.1, .int B.2.2.2.2.2.1, .int B.2.2.2.2.2.2])), (a0, .inl (cI, 128, .inl fi)), (a1, .inl (cI, 128, .inl la)), (a2, .inl (cI, 128, .inl B.1)), (a3, .inl (cI, 128, .inl B.2.1)), (a4, .inl (cI, 128, .inl B.2.2.1)), (a5, .inl (cI, 128, .inl B.2.2.2.1))] H := hP
  have hD : va_D A [(h, .inr (0, [.ref a0, .ref a1, .ref a2, .ref a3, .ref a4, .ref a5, .int B.2.2.2.2.1, .int B.2.2.2.2.2.1, .int B.2.2.2.2.2.2])), (a0, .inl (cI, 128, .inl fi)), (a1, .inl (cI, 128, .inl la)), (a2, .inl (cI, 128, .inl B.1)), (a3, .inl (cI, 128, .inl B.2.1)), (a4, .inl (cI, 128, .inl B.2.2.1)), (a5, .inl (cI, 128, .inl B.2.2.2.1))] := hD
  have hin_X0 : ∀ w ∈ wsX00, w ∈ wsX0_countVisit := by decide +kernel
  have hf_PressedPlains_Book_38 := hts (.fieldLink RX0 38 "PressedPlains$Book" "latestVisits" "I") (by decide +kernel)
  have hf_PressedPlains_Book_42 := hts (.fieldLink RX0 42 "PressedPlains$Book" "totalVisits" "I") (by decide +kernel)
  refine lv_aload_n hx hb dX0_countVisit_0 rfl (lv_at hl 0 rfl) ?_
  refine lv_dup hx hb dX0_countVisit_1 rfl ?_
  refine va_get (D := D) (ci := 0) (v := .int B.2.2.2.2.1) (C := RX0) (T := TX0) (N := 9) hx hb hts hin_X0 hown hK hP 0 rfl rfl 6 (by decide) hf_PressedPlains_Book_38 (fun _ h9 => h9) rfl dX0_countVisit_2 ?_
  refine lv_iconst (v := 1) hx hb dX0_countVisit_5 (by decide) ?_
  refine lv_iadd hx hb dX0_countVisit_6 ?_
  refine va_put (D := D) (ci := 0) (v := .int (B.2.2.2.2.1 + 1)) (ty := .int) (C := RX0) (T := TX0) (N := 9) hx hb hts hin_X0 tyX0 tyX0_ok nmX0 hown hK hP hD hS 0 rfl rfl 6 (by decide) hf_PressedPlains_Book_38 (fun _ h9 => h9) rfl (by decide +kernel) rfl rfl (Nat.le_of_ble_eq_true rfl) dX0_countVisit_7 (fun H locs hP hD hS => ?_)
  have hP : va_P D vwCl [(h, .inr (0, [.ref a0, .ref a1, .ref a2, .ref a3, .ref a4, .ref a5, .int (B.2.2.2.2.1 + 1), .int B.2.2.2.2.2.1, .int B.2.2.2.2.2.2])), (a0, .inl (cI, 128, .inl fi)), (a1, .inl (cI, 128, .inl la)), (a2, .inl (cI, 128, .inl B.1)), (a3, .inl (cI, 128, .inl B.2.1)), (a4, .inl (cI, 128, .inl B.2.2.1)), (a5, .inl (cI, 128, .inl B.2.2.2.1))] H := hP
  have hD : va_D A [(h, .inr (0, [.ref a0, .ref a1, .ref a2, .ref a3, .ref a4, .ref a5, .int (B.2.2.2.2.1 + 1), .int B.2.2.2.2.2.1, .int B.2.2.2.2.2.2])), (a0, .inl (cI, 128, .inl fi)), (a1, .inl (cI, 128, .inl la)), (a2, .inl (cI, 128, .inl B.1)), (a3, .inl (cI, 128, .inl B.2.1)), (a4, .inl (cI, 128, .inl B.2.2.1)), (a5, .inl (cI, 128, .inl B.2.2.2.1))] := hD
  refine lv_aload_n hx hb dX0_countVisit_10 rfl (lv_at hl 0 rfl) ?_
  refine lv_dup hx hb dX0_countVisit_11 rfl ?_
  refine va_get (D := D) (ci := 0) (v := .int B.2.2.2.2.2.1) (C := RX0) (T := TX0) (N := 9) hx hb hts hin_X0 hown hK hP 0 rfl rfl 7 (by decide) hf_PressedPlains_Book_42 (fun _ h9 => h9) rfl dX0_countVisit_12 ?_
  refine lv_iconst (v := 1) hx hb dX0_countVisit_15 (by decide) ?_
  refine lv_iadd hx hb dX0_countVisit_16 ?_
  refine va_put (D := D) (ci := 0) (v := .int (B.2.2.2.2.2.1 + 1)) (ty := .int) (C := RX0) (T := TX0) (N := 9) hx hb hts hin_X0 tyX0 tyX0_ok nmX0 hown hK hP hD hS 0 rfl rfl 7 (by decide) hf_PressedPlains_Book_42 (fun _ h9 => h9) rfl (by decide +kernel) rfl rfl (Nat.le_of_ble_eq_true rfl) dX0_countVisit_17 (fun H locs hP hD hS => ?_)
  have hP : va_P D vwCl [(h, .inr (0, [.ref a0, .ref a1, .ref a2, .ref a3, .ref a4, .ref a5, .int (B.2.2.2.2.1 + 1), .int (B.2.2.2.2.2.1 + 1), .int B.2.2.2.2.2.2])), (a0, .inl (cI, 128, .inl fi)), (a1, .inl (cI, 128, .inl la)), (a2, .inl (cI, 128, .inl B.1)), (a3, .inl (cI, 128, .inl B.2.1)), (a4, .inl (cI, 128, .inl B.2.2.1)), (a5, .inl (cI, 128, .inl B.2.2.2.1))] H := hP
  have hD : va_D A [(h, .inr (0, [.ref a0, .ref a1, .ref a2, .ref a3, .ref a4, .ref a5, .int (B.2.2.2.2.1 + 1), .int (B.2.2.2.2.2.1 + 1), .int B.2.2.2.2.2.2])), (a0, .inl (cI, 128, .inl fi)), (a1, .inl (cI, 128, .inl la)), (a2, .inl (cI, 128, .inl B.1)), (a3, .inl (cI, 128, .inl B.2.1)), (a4, .inl (cI, 128, .inl B.2.2.1)), (a5, .inl (cI, 128, .inl B.2.2.2.1))] := hD
  exact pq_vret hQ hx hb hr hlocks hK hS hP hD dX0_countVisit_20 (by omega) (by omega) (⟨rfl, rfl⟩)

set_option maxHeartbeats 4000000 in
set_option maxRecDepth 100000 in
theorem mX0_beginCall (l : Launch) (D : va_G) (cI : ClassId) (h a0 a1 a2 a3 a4 a5 : Nat) (fi la : Nat → Int32) (B : BK) : pq_M l yX0_beginCall wsX0_beginCall 0 0 0 0 D [(cI, .int)] pq_0 (bkW h a0 a1 a2 a3 a4 a5 cI fi la B) [.ref h] (fun v w1 => v = none ∧ w1 = bkW h a0 a1 a2 a3 a4 a5 cI fi la (bBegin B)) := by
  refine pq_enter (cc := cX0_beginCall) (maxL := 1) (ret := none) (by decide) rfl (Nat.le_of_ble_eq_true rfl) ?_
  intro p ev s m args below meth cd A ls Q H locs hx hb hr hml hts hown hlocks hnm hK hP hD hS hA hE hl hQ
  have hl : lv_has ls 1 [(0, .ref h)] := hl
  have hP : va_P D vwCl [(h, .inr (0, [.ref a0, .ref a1, .ref a2, .ref a3, .ref a4, .ref a5, .int B.2.2.2.2.1, .int B.2.2.2.2.2.1, .int B.2.2.2.2.2.2])), (a0, .inl (cI, 128, .inl fi)), (a1, .inl (cI, 128, .inl la)), (a2, .inl (cI, 128, .inl B.1)), (a3, .inl (cI, 128, .inl B.2.1)), (a4, .inl (cI, 128, .inl B.2.2.1)), (a5, .inl (cI, 128, .inl B.2.2.2.1))] H := hP
  have hD : va_D A [(h, .inr (0, [.ref a0, .ref a1, .ref a2, .ref a3, .ref a4, .ref a5, .int B.2.2.2.2.1, .int B.2.2.2.2.2.1, .int B.2.2.2.2.2.2])), (a0, .inl (cI, 128, .inl fi)), (a1, .inl (cI, 128, .inl la)), (a2, .inl (cI, 128, .inl B.1)), (a3, .inl (cI, 128, .inl B.2.1)), (a4, .inl (cI, 128, .inl B.2.2.1)), (a5, .inl (cI, 128, .inl B.2.2.2.1))] := hD
  have hin_X0 : ∀ w ∈ wsX00, w ∈ wsX0_beginCall := by decide +kernel
  have hf_PressedPlains_Book_45 := hts (.fieldLink RX0 45 "PressedPlains$Book" "calls" "I") (by decide +kernel)
  have hf_PressedPlains_Book_38 := hts (.fieldLink RX0 38 "PressedPlains$Book" "latestVisits" "I") (by decide +kernel)
  refine lv_aload_n hx hb dX0_beginCall_0 rfl (lv_at hl 0 rfl) ?_
  refine lv_dup hx hb dX0_beginCall_1 rfl ?_
  refine va_get (D := D) (ci := 0) (v := .int B.2.2.2.2.2.2) (C := RX0) (T := TX0) (N := 9) hx hb hts hin_X0 hown hK hP 0 rfl rfl 8 (by decide) hf_PressedPlains_Book_45 (fun _ h9 => h9) rfl dX0_beginCall_2 ?_
  refine lv_iconst (v := 1) hx hb dX0_beginCall_5 (by decide) ?_
  refine lv_iadd hx hb dX0_beginCall_6 ?_
  refine va_put (D := D) (ci := 0) (v := .int (B.2.2.2.2.2.2 + 1)) (ty := .int) (C := RX0) (T := TX0) (N := 9) hx hb hts hin_X0 tyX0 tyX0_ok nmX0 hown hK hP hD hS 0 rfl rfl 8 (by decide) hf_PressedPlains_Book_45 (fun _ h9 => h9) rfl (by decide +kernel) rfl rfl (Nat.le_of_ble_eq_true rfl) dX0_beginCall_7 (fun H locs hP hD hS => ?_)
  have hP : va_P D vwCl [(h, .inr (0, [.ref a0, .ref a1, .ref a2, .ref a3, .ref a4, .ref a5, .int B.2.2.2.2.1, .int B.2.2.2.2.2.1, .int (B.2.2.2.2.2.2 + 1)])), (a0, .inl (cI, 128, .inl fi)), (a1, .inl (cI, 128, .inl la)), (a2, .inl (cI, 128, .inl B.1)), (a3, .inl (cI, 128, .inl B.2.1)), (a4, .inl (cI, 128, .inl B.2.2.1)), (a5, .inl (cI, 128, .inl B.2.2.2.1))] H := hP
  have hD : va_D A [(h, .inr (0, [.ref a0, .ref a1, .ref a2, .ref a3, .ref a4, .ref a5, .int B.2.2.2.2.1, .int B.2.2.2.2.2.1, .int (B.2.2.2.2.2.2 + 1)])), (a0, .inl (cI, 128, .inl fi)), (a1, .inl (cI, 128, .inl la)), (a2, .inl (cI, 128, .inl B.1)), (a3, .inl (cI, 128, .inl B.2.1)), (a4, .inl (cI, 128, .inl B.2.2.1)), (a5, .inl (cI, 128, .inl B.2.2.2.1))] := hD
  refine lv_aload_n hx hb dX0_beginCall_10 rfl (lv_at hl 0 rfl) ?_
  refine lv_iconst (v := 0) hx hb dX0_beginCall_11 (by decide) ?_
  refine va_put (D := D) (ci := 0) (v := .int 0) (ty := .int) (C := RX0) (T := TX0) (N := 9) hx hb hts hin_X0 tyX0 tyX0_ok nmX0 hown hK hP hD hS 0 rfl rfl 6 (by decide) hf_PressedPlains_Book_38 (fun _ h9 => h9) rfl (by decide +kernel) rfl rfl (Nat.le_of_ble_eq_true rfl) dX0_beginCall_12 (fun H locs hP hD hS => ?_)
  have hP : va_P D vwCl [(h, .inr (0, [.ref a0, .ref a1, .ref a2, .ref a3, .ref a4, .ref a5, .int 0, .int B.2.2.2.2.2.1, .int (B.2.2.2.2.2.2 + 1)])), (a0, .inl (cI, 128, .inl fi)), (a1, .inl (cI, 128, .inl la)), (a2, .inl (cI, 128, .inl B.1)), (a3, .inl (cI, 128, .inl B.2.1)), (a4, .inl (cI, 128, .inl B.2.2.1)), (a5, .inl (cI, 128, .inl B.2.2.2.1))] H := hP
  have hD : va_D A [(h, .inr (0, [.ref a0, .ref a1, .ref a2, .ref a3, .ref a4, .ref a5, .int 0, .int B.2.2.2.2.2.1, .int (B.2.2.2.2.2.2 + 1)])), (a0, .inl (cI, 128, .inl fi)), (a1, .inl (cI, 128, .inl la)), (a2, .inl (cI, 128, .inl B.1)), (a3, .inl (cI, 128, .inl B.2.1)), (a4, .inl (cI, 128, .inl B.2.2.1)), (a5, .inl (cI, 128, .inl B.2.2.2.1))] := hD
  exact pq_vret hQ hx hb hr hlocks hK hS hP hD dX0_beginCall_15 (by omega) (by omega) (⟨rfl, rfl⟩)

set_option maxHeartbeats 4000000 in
set_option maxRecDepth 100000 in
theorem mX0_catchUp (l : Launch) (D : va_G) (cI : ClassId) (h a0 a1 a2 a3 a4 a5 : Nat) (fi la : Nat → Int32) (B : BK) (e : Nat) (he : e < 128) : pq_M l yX0_catchUp wsX0_catchUp 1 22 0 0 D [(cI, .int)] pq_0 (bkW h a0 a1 a2 a3 a4 a5 cI fi la B) [.ref h, .int (nI e)] (fun v w1 => v = none ∧ w1 = bkW h a0 a1 a2 a3 a4 a5 cI fi la (bCatch B e)) := by
  refine pq_enter (cc := cX0_catchUp) (maxL := 2) (ret := none) (by decide) rfl (Nat.le_of_ble_eq_true rfl) ?_
  intro p ev s m args below meth cd A ls Q H locs hx hb hr hml hts hown hlocks hnm hK hP hD hS hA hE hl hQ
  have hl : lv_has ls 2 [(0, .ref h), (1, .int (nI e))] := hl
  have hP : va_P D vwCl [(h, .inr (0, [.ref a0, .ref a1, .ref a2, .ref a3, .ref a4, .ref a5, .int B.2.2.2.2.1, .int B.2.2.2.2.2.1, .int B.2.2.2.2.2.2])), (a0, .inl (cI, 128, .inl fi)), (a1, .inl (cI, 128, .inl la)), (a2, .inl (cI, 128, .inl B.1)), (a3, .inl (cI, 128, .inl B.2.1)), (a4, .inl (cI, 128, .inl B.2.2.1)), (a5, .inl (cI, 128, .inl B.2.2.2.1))] H := hP
  have hD : va_D A [(h, .inr (0, [.ref a0, .ref a1, .ref a2, .ref a3, .ref a4, .ref a5, .int B.2.2.2.2.1, .int B.2.2.2.2.2.1, .int B.2.2.2.2.2.2])), (a0, .inl (cI, 128, .inl fi)), (a1, .inl (cI, 128, .inl la)), (a2, .inl (cI, 128, .inl B.1)), (a3, .inl (cI, 128, .inl B.2.1)), (a4, .inl (cI, 128, .inl B.2.2.1)), (a5, .inl (cI, 128, .inl B.2.2.2.1))] := hD
  have hin_X0 : ∀ w ∈ wsX00, w ∈ wsX0_catchUp := by decide +kernel
  have hf_PressedPlains_Book_18 := hts (.fieldLink RX0 18 "PressedPlains$Book" "greatest" "[I") (by decide +kernel)
  refine lv_aload_n hx hb dX0_catchUp_0 rfl (lv_at hl 0 rfl) ?_
  refine lv_iload_n hx hb dX0_catchUp_1 rfl (lv_at hl 1 rfl) ?_
  refine pq_callV (wr := []) (own := RX0) (nL := 2) (q0 := 0) (ci := 0) [0, 1, 2, 3, 4, 5, 6] [] [.int (nI e)] (mX0_lags l D cI h a0 a1 a2 a3 a4 a5 fi la B e (by omega)) ⟨hx, hb, hml, hown, hts⟩ (cwV 1 hts gX0_catchUp_X0_lags rfl rfl rfl (by decide +kernel) ⟨by dsimp only [pq_R]; omega, by dsimp only [pq_R]; omega⟩) pq_bl0 (fun _ _ _ => trivial) hK hP hD hS hA rfl (by decide) rfl (by decide) (by decide) rfl rfl rfl rfl hl.1 rfl (Nat.le_of_ble_eq_true rfl) dX0_catchUp_2 ⟨by dsimp only [pq_R]; omega, by dsimp only [pq_R]; omega⟩ (fun v w1 H locs hq hP hD hS hz => ?_)
  obtain ⟨rfl, rfl⟩ := hq
  have hP : va_P D vwCl [(h, .inr (0, [.ref a0, .ref a1, .ref a2, .ref a3, .ref a4, .ref a5, .int B.2.2.2.2.1, .int B.2.2.2.2.2.1, .int B.2.2.2.2.2.2])), (a0, .inl (cI, 128, .inl fi)), (a1, .inl (cI, 128, .inl la)), (a2, .inl (cI, 128, .inl B.1)), (a3, .inl (cI, 128, .inl B.2.1)), (a4, .inl (cI, 128, .inl B.2.2.1)), (a5, .inl (cI, 128, .inl B.2.2.2.1))] H := hP
  have hD : va_D A [(h, .inr (0, [.ref a0, .ref a1, .ref a2, .ref a3, .ref a4, .ref a5, .int B.2.2.2.2.1, .int B.2.2.2.2.2.1, .int B.2.2.2.2.2.2])), (a0, .inl (cI, 128, .inl fi)), (a1, .inl (cI, 128, .inl la)), (a2, .inl (cI, 128, .inl B.1)), (a3, .inl (cI, 128, .inl B.2.1)), (a4, .inl (cI, 128, .inl B.2.2.1)), (a5, .inl (cI, 128, .inl B.2.2.2.1))] := hD
  by_cases b_1 : bLag B e
  · rw [if_pos b_1]
    refine W.eq (g2 := F0 m 5 ls [.int 1]) rfl ?_
    refine lv_if_eq (tgt := 21) hx hb dX0_catchUp_5 (by decide) (fun c9 => absurd c9 (by decide)) (fun _ => ?_)
    refine lv_aload_n hx hb dX0_catchUp_8 rfl (lv_at hl 0 rfl) ?_
    refine lv_iload_n hx hb dX0_catchUp_9 rfl (lv_at hl 1 rfl) ?_
    refine lv_aload_n hx hb dX0_catchUp_10 rfl (lv_at hl 0 rfl) ?_
    refine va_get (D := D) (ci := 0) (v := .ref a2) (C := RX0) (T := TX0) (N := 9) hx hb hts hin_X0 hown hK hP 0 rfl rfl 2 (by decide) hf_PressedPlains_Book_18 (fun _ h9 => h9) rfl dX0_catchUp_11 ?_
    refine lv_iload_n hx hb dX0_catchUp_14 rfl (lv_at hl 1 rfl) ?_
    refine lv_iconst (v := 2) hx hb dX0_catchUp_15 (by decide) ?_
    refine lv_idiv hx hb dX0_catchUp_16 (by decide) ?_
    refine pq_top (nI (e / 2)) (pk_div (d := 2) (by omega) (by decide) (by decide)) ?_
    refine pq_iald hx hb hK hP 3 0 rfl rfl (e / 2) (by omega) (by decide) dX0_catchUp_17 ?_
    refine pq_callV (wr := []) (own := RX0) (nL := 2) (q0 := 0) (ci := 0) [0, 1, 2, 3, 4, 5, 6] [] [.int (nI e), .int (B.1 (e / 2))] (mX0_pressDown l D cI h a0 a1 a2 a3 a4 a5 fi la B e (B.1 (e / 2)) (by omega)) ⟨hx, hb, hml, hown, hts⟩ (cwV 2 hts gX0_catchUp_X0_pressDown rfl rfl rfl (by decide +kernel) ⟨by dsimp only [pq_R]; omega, by dsimp only [pq_R]; omega⟩) pq_bl0 (fun _ _ _ => trivial) hK hP hD hS hA rfl (by decide) rfl (by decide) (by decide) rfl rfl rfl rfl hl.1 rfl (Nat.le_of_ble_eq_true rfl) dX0_catchUp_18 ⟨by dsimp only [pq_R]; omega, by dsimp only [pq_R]; omega⟩ (fun v w1 H locs hq hP hD hS hz => ?_)
    obtain ⟨rfl, rfl⟩ := hq
    obtain ⟨B_2, hB_2⟩ : ∃ zz, zz = bPress B e (B.1 (e / 2)) := ⟨_, rfl⟩
    rw [← hB_2] at hP hD
    have hP : va_P D vwCl [(h, .inr (0, [.ref a0, .ref a1, .ref a2, .ref a3, .ref a4, .ref a5, .int B_2.2.2.2.2.1, .int B_2.2.2.2.2.2.1, .int B_2.2.2.2.2.2.2])), (a0, .inl (cI, 128, .inl fi)), (a1, .inl (cI, 128, .inl la)), (a2, .inl (cI, 128, .inl B_2.1)), (a3, .inl (cI, 128, .inl B_2.2.1)), (a4, .inl (cI, 128, .inl B_2.2.2.1)), (a5, .inl (cI, 128, .inl B_2.2.2.2.1))] H := hP
    have hD : va_D A [(h, .inr (0, [.ref a0, .ref a1, .ref a2, .ref a3, .ref a4, .ref a5, .int B_2.2.2.2.2.1, .int B_2.2.2.2.2.2.1, .int B_2.2.2.2.2.2.2])), (a0, .inl (cI, 128, .inl fi)), (a1, .inl (cI, 128, .inl la)), (a2, .inl (cI, 128, .inl B_2.1)), (a3, .inl (cI, 128, .inl B_2.2.1)), (a4, .inl (cI, 128, .inl B_2.2.2.1)), (a5, .inl (cI, 128, .inl B_2.2.2.2.1))] := hD
    refine W.eq (g2 := F0 m 21 ls []) rfl ?_
    exact pq_vret hQ hx hb hr hlocks hK hS hP hD dX0_catchUp_21 (by omega) (by omega) (⟨rfl, by subst hB_2; unfold bCatch; rw [if_pos b_1] <;> rfl⟩)
  · rw [if_neg b_1]
    refine W.eq (g2 := F0 m 5 ls [.int 0]) rfl ?_
    refine lv_if_eq (tgt := 21) hx hb dX0_catchUp_5 (by decide) (fun _ => ?_) (fun c9 => absurd c9 (by decide))
    exact pq_vret hQ hx hb hr hlocks hK hS hP hD dX0_catchUp_21 (by omega) (by omega) (⟨rfl, by unfold bCatch; rw [if_neg b_1] <;> rfl⟩)

set_option maxHeartbeats 4000000 in
set_option maxRecDepth 100000 in
theorem mX0_catchUpBelow (l : Launch) (D : va_G) (cI : ClassId) (h a0 a1 a2 a3 a4 a5 : Nat) (fi la : Nat → Int32) (B : BK) (e : Nat) (he : e < 64) : pq_M l yX0_catchUpBelow wsX0_catchUpBelow 2 43 0 0 D [(cI, .int)] pq_0 (bkW h a0 a1 a2 a3 a4 a5 cI fi la B) [.ref h, .int (nI e)] (fun v w1 => v = none ∧ w1 = bkW h a0 a1 a2 a3 a4 a5 cI fi la (bCatch2 B e)) := by
  refine pq_enter (cc := cX0_catchUpBelow) (maxL := 2) (ret := none) (by decide) rfl (Nat.le_of_ble_eq_true rfl) ?_
  intro p ev s m args below meth cd A ls Q H locs hx hb hr hml hts hown hlocks hnm hK hP hD hS hA hE hl hQ
  have hl : lv_has ls 2 [(0, .ref h), (1, .int (nI e))] := hl
  have hP : va_P D vwCl [(h, .inr (0, [.ref a0, .ref a1, .ref a2, .ref a3, .ref a4, .ref a5, .int B.2.2.2.2.1, .int B.2.2.2.2.2.1, .int B.2.2.2.2.2.2])), (a0, .inl (cI, 128, .inl fi)), (a1, .inl (cI, 128, .inl la)), (a2, .inl (cI, 128, .inl B.1)), (a3, .inl (cI, 128, .inl B.2.1)), (a4, .inl (cI, 128, .inl B.2.2.1)), (a5, .inl (cI, 128, .inl B.2.2.2.1))] H := hP
  have hD : va_D A [(h, .inr (0, [.ref a0, .ref a1, .ref a2, .ref a3, .ref a4, .ref a5, .int B.2.2.2.2.1, .int B.2.2.2.2.2.1, .int B.2.2.2.2.2.2])), (a0, .inl (cI, 128, .inl fi)), (a1, .inl (cI, 128, .inl la)), (a2, .inl (cI, 128, .inl B.1)), (a3, .inl (cI, 128, .inl B.2.1)), (a4, .inl (cI, 128, .inl B.2.2.1)), (a5, .inl (cI, 128, .inl B.2.2.2.1))] := hD
  refine lv_aload_n hx hb dX0_catchUpBelow_0 rfl (lv_at hl 0 rfl) ?_
  refine lv_iconst (v := 2) hx hb dX0_catchUpBelow_1 (by decide) ?_
  refine lv_iload_n hx hb dX0_catchUpBelow_2 rfl (lv_at hl 1 rfl) ?_
  refine lv_imul hx hb dX0_catchUpBelow_3 ?_
  refine pq_top (nI (2 * e)) (pk_mul 2 _) ?_
  refine pq_callV (wr := []) (own := RX0) (nL := 2) (q0 := 0) (ci := 0) [0, 1, 2, 3, 4, 5, 6] [] [.int (nI (2 * e))] (mX0_catchUp l D cI h a0 a1 a2 a3 a4 a5 fi la B (2 * e) (by omega)) ⟨hx, hb, hml, hown, hts⟩ (cwV 1 hts gX0_catchUpBelow_X0_catchUp rfl rfl rfl (by decide +kernel) ⟨by dsimp only [pq_R]; omega, by dsimp only [pq_R]; omega⟩) pq_bl0 (fun _ _ _ => trivial) hK hP hD hS hA rfl (by decide) rfl (by decide) (by decide) rfl rfl rfl rfl hl.1 rfl (Nat.le_of_ble_eq_true rfl) dX0_catchUpBelow_4 ⟨by dsimp only [pq_R]; omega, by dsimp only [pq_R]; omega⟩ (fun v w1 H locs hq hP hD hS hz => ?_)
  obtain ⟨rfl, rfl⟩ := hq
  obtain ⟨B_1, hB_1⟩ : ∃ zz, zz = bCatch B (2 * e) := ⟨_, rfl⟩
  rw [← hB_1] at hP hD
  have hP : va_P D vwCl [(h, .inr (0, [.ref a0, .ref a1, .ref a2, .ref a3, .ref a4, .ref a5, .int B_1.2.2.2.2.1, .int B_1.2.2.2.2.2.1, .int B_1.2.2.2.2.2.2])), (a0, .inl (cI, 128, .inl fi)), (a1, .inl (cI, 128, .inl la)), (a2, .inl (cI, 128, .inl B_1.1)), (a3, .inl (cI, 128, .inl B_1.2.1)), (a4, .inl (cI, 128, .inl B_1.2.2.1)), (a5, .inl (cI, 128, .inl B_1.2.2.2.1))] H := hP
  have hD : va_D A [(h, .inr (0, [.ref a0, .ref a1, .ref a2, .ref a3, .ref a4, .ref a5, .int B_1.2.2.2.2.1, .int B_1.2.2.2.2.2.1, .int B_1.2.2.2.2.2.2])), (a0, .inl (cI, 128, .inl fi)), (a1, .inl (cI, 128, .inl la)), (a2, .inl (cI, 128, .inl B_1.1)), (a3, .inl (cI, 128, .inl B_1.2.1)), (a4, .inl (cI, 128, .inl B_1.2.2.1)), (a5, .inl (cI, 128, .inl B_1.2.2.2.1))] := hD
  refine W.eq (g2 := F0 m 7 ls []) rfl ?_
  refine lv_aload_n hx hb dX0_catchUpBelow_7 rfl (lv_at hl 0 rfl) ?_
  refine lv_iconst (v := 2) hx hb dX0_catchUpBelow_8 (by decide) ?_
  refine lv_iload_n hx hb dX0_catchUpBelow_9 rfl (lv_at hl 1 rfl) ?_
  refine lv_imul hx hb dX0_catchUpBelow_10 ?_
  refine pq_top (nI (2 * e)) (pk_mul 2 _) ?_
  refine lv_iconst (v := 1) hx hb dX0_catchUpBelow_11 (by decide) ?_
  refine lv_iadd hx hb dX0_catchUpBelow_12 ?_
  refine pq_top (nI ((2 * e) + 1)) (nI_1 _) ?_
  refine pq_callV (wr := []) (own := RX0) (nL := 2) (q0 := 0) (ci := 0) [0, 1, 2, 3, 4, 5, 6] [] [.int (nI ((2 * e) + 1))] (mX0_catchUp l D cI h a0 a1 a2 a3 a4 a5 fi la B_1 ((2 * e) + 1) (by omega)) ⟨hx, hb, hml, hown, hts⟩ (cwV 1 hts gX0_catchUpBelow_X0_catchUp rfl rfl rfl (by decide +kernel) ⟨by dsimp only [pq_R]; omega, by dsimp only [pq_R]; omega⟩) pq_bl0 (fun _ _ _ => trivial) hK hP hD hS hA rfl (by decide) rfl (by decide) (by decide) rfl rfl rfl rfl hl.1 rfl (Nat.le_of_ble_eq_true rfl) dX0_catchUpBelow_13 ⟨by dsimp only [pq_R]; omega, by dsimp only [pq_R]; omega⟩ (fun v w1 H locs hq hP hD hS hz => ?_)
  obtain ⟨rfl, rfl⟩ := hq
  obtain ⟨B_2, hB_2⟩ : ∃ zz, zz = bCatch B_1 ((2 * e) + 1) := ⟨_, rfl⟩
  rw [← hB_2] at hP hD
  have hP : va_P D vwCl [(h, .inr (0, [.ref a0, .ref a1, .ref a2, .ref a3, .ref a4, .ref a5, .int B_2.2.2.2.2.1, .int B_2.2.2.2.2.2.1, .int B_2.2.2.2.2.2.2])), (a0, .inl (cI, 128, .inl fi)), (a1, .inl (cI, 128, .inl la)), (a2, .inl (cI, 128, .inl B_2.1)), (a3, .inl (cI, 128, .inl B_2.2.1)), (a4, .inl (cI, 128, .inl B_2.2.2.1)), (a5, .inl (cI, 128, .inl B_2.2.2.2.1))] H := hP
  have hD : va_D A [(h, .inr (0, [.ref a0, .ref a1, .ref a2, .ref a3, .ref a4, .ref a5, .int B_2.2.2.2.2.1, .int B_2.2.2.2.2.2.1, .int B_2.2.2.2.2.2.2])), (a0, .inl (cI, 128, .inl fi)), (a1, .inl (cI, 128, .inl la)), (a2, .inl (cI, 128, .inl B_2.1)), (a3, .inl (cI, 128, .inl B_2.2.1)), (a4, .inl (cI, 128, .inl B_2.2.2.1)), (a5, .inl (cI, 128, .inl B_2.2.2.2.1))] := hD
  refine W.eq (g2 := F0 m 16 ls []) rfl ?_
  exact pq_vret hQ hx hb hr hlocks hK hS hP hD dX0_catchUpBelow_16 (by omega) (by omega) (⟨rfl, by subst hB_2; subst hB_1; rfl⟩)

set_option maxHeartbeats 4000000 in
set_option maxRecDepth 100000 in
theorem mX0_tellAnew (l : Launch) (D : va_G) (cI : ClassId) (h a0 a1 a2 a3 a4 a5 : Nat) (fi la : Nat → Int32) (B : BK) (e : Nat) (he : e < 64) : pq_M l yX0_tellAnew wsX0_tellAnew 1 30 0 0 D [(cI, .int)] pq_0 (bkW h a0 a1 a2 a3 a4 a5 cI fi la B) [.ref h, .int (nI e)] (fun v w1 => v = none ∧ w1 = bkW h a0 a1 a2 a3 a4 a5 cI fi la (bTell B e)) := by
  refine pq_enter (cc := cX0_tellAnew) (maxL := 5) (ret := none) (by decide) rfl (Nat.le_of_ble_eq_true rfl) ?_
  intro p ev s m args below meth cd A ls Q H locs hx hb hr hml hts hown hlocks hnm hK hP hD hS hA hE hl hQ
  have hl : lv_has ls 5 [(0, .ref h), (1, .int (nI e))] := hl
  have hP : va_P D vwCl [(h, .inr (0, [.ref a0, .ref a1, .ref a2, .ref a3, .ref a4, .ref a5, .int B.2.2.2.2.1, .int B.2.2.2.2.2.1, .int B.2.2.2.2.2.2])), (a0, .inl (cI, 128, .inl fi)), (a1, .inl (cI, 128, .inl la)), (a2, .inl (cI, 128, .inl B.1)), (a3, .inl (cI, 128, .inl B.2.1)), (a4, .inl (cI, 128, .inl B.2.2.1)), (a5, .inl (cI, 128, .inl B.2.2.2.1))] H := hP
  have hD : va_D A [(h, .inr (0, [.ref a0, .ref a1, .ref a2, .ref a3, .ref a4, .ref a5, .int B.2.2.2.2.1, .int B.2.2.2.2.2.1, .int B.2.2.2.2.2.2])), (a0, .inl (cI, 128, .inl fi)), (a1, .inl (cI, 128, .inl la)), (a2, .inl (cI, 128, .inl B.1)), (a3, .inl (cI, 128, .inl B.2.1)), (a4, .inl (cI, 128, .inl B.2.2.1)), (a5, .inl (cI, 128, .inl B.2.2.2.1))] := hD
  have hin_X0 : ∀ w ∈ wsX00, w ∈ wsX0_tellAnew := by decide +kernel
  have hf_PressedPlains_Book_18 := hts (.fieldLink RX0 18 "PressedPlains$Book" "greatest" "[I") (by decide +kernel)
  have hm1_max101 := hts (.methodLink RX0 101 Lib.Math.max.name) (by decide +kernel)
  have hm2_max := hts (.static Lib.Math.max.name) (by decide +kernel)
  have hm3 := hts (.initialized "java/lang/Math") (by decide +kernel)
  have hm4_max := hts (.code Lib.Math.max.name Lib.Math.max.code 2 (some .int)) (by decide +kernel)
  have hf_PressedPlains_Book_24 := hts (.fieldLink RX0 24 "PressedPlains$Book" "many" "[I") (by decide +kernel)
  have hf_PressedPlains_Book_21 := hts (.fieldLink RX0 21 "PressedPlains$Book" "second" "[I") (by decide +kernel)
  have hf_PressedPlains_Book_27 := hts (.fieldLink RX0 27 "PressedPlains$Book" "sum" "[I") (by decide +kernel)
  refine lv_iconst (v := 2) hx hb dX0_tellAnew_0 (by decide) ?_
  refine lv_iload_n hx hb dX0_tellAnew_1 rfl (lv_at hl 1 rfl) ?_
  refine lv_imul hx hb dX0_tellAnew_2 ?_
  refine pq_top (nI (2 * e)) (pk_mul 2 _) ?_
  refine lv_istore_n (lv' := [(2, .int (nI (2 * e))), (0, .ref h), (1, .int (nI e))]) hx hb dX0_tellAnew_3 rfl hl (by decide) rfl (fun ls hl => ?_)
  refine lv_iload_n hx hb dX0_tellAnew_4 rfl (lv_at hl 0 rfl) ?_
  refine lv_iconst (v := 1) hx hb dX0_tellAnew_5 (by decide) ?_
  refine lv_iadd hx hb dX0_tellAnew_6 ?_
  refine pq_top (nI ((2 * e) + 1)) (nI_1 _) ?_
  refine lv_istore_n (lv' := [(3, .int (nI ((2 * e) + 1))), (2, .int (nI (2 * e))), (0, .ref h), (1, .int (nI e))]) hx hb dX0_tellAnew_7 rfl hl (by decide) rfl (fun ls hl => ?_)
  refine lv_aload_n hx hb dX0_tellAnew_8 rfl (lv_at hl 2 rfl) ?_
  refine va_get (D := D) (ci := 0) (v := .ref a2) (C := RX0) (T := TX0) (N := 9) hx hb hts hin_X0 hown hK hP 0 rfl rfl 2 (by decide) hf_PressedPlains_Book_18 (fun _ h9 => h9) rfl dX0_tellAnew_9 ?_
  refine lv_iload_n hx hb dX0_tellAnew_12 rfl (lv_at hl 1 rfl) ?_
  refine pq_iald hx hb hK hP 3 0 rfl rfl (2 * e) (by omega) (by decide) dX0_tellAnew_13 ?_
  refine lv_aload_n hx hb dX0_tellAnew_14 rfl (lv_at hl 2 rfl) ?_
  refine va_get (D := D) (ci := 0) (v := .ref a2) (C := RX0) (T := TX0) (N := 9) hx hb hts hin_X0 hown hK hP 0 rfl rfl 2 (by decide) hf_PressedPlains_Book_18 (fun _ h9 => h9) rfl dX0_tellAnew_15 ?_
  refine lv_iload_n hx hb dX0_tellAnew_18 rfl (lv_at hl 0 rfl) ?_
  refine pq_iald hx hb hK hP 3 0 rfl rfl ((2 * e) + 1) (by omega) (by decide) dX0_tellAnew_19 ?_
  refine va_mmax hx hb (hml.trans hl.1.symm) hown hm1_max101 hm2_max hm3 hm4_max (by first | exact Nat.le_of_ble_eq_true rfl | (dsimp only [pq_R]; omega)) (by first | exact Nat.le_of_ble_eq_true rfl | (simp only [List.map_nil, List.map_cons, List.sum_nil, List.sum_cons, pq_R, Value.category]; omega)) (Nat.le_of_ble_eq_true rfl) (Nat.le_of_ble_eq_true rfl) dX0_tellAnew_20 ?_
  refine pq_top (bMax (B.1 (2 * e)) (B.1 ((2 * e) + 1))) rfl ?_
  refine lv_istore (lv' := [(4, .int (bMax (B.1 (2 * e)) (B.1 ((2 * e) + 1)))), (3, .int (nI ((2 * e) + 1))), (2, .int (nI (2 * e))), (0, .ref h), (1, .int (nI e))]) hx hb dX0_tellAnew_23 hl (by decide) rfl (fun ls hl => ?_)
  refine lv_aload_n hx hb dX0_tellAnew_25 rfl (lv_at hl 3 rfl) ?_
  refine va_get (D := D) (ci := 0) (v := .ref a2) (C := RX0) (T := TX0) (N := 9) hx hb hts hin_X0 hown hK hP 0 rfl rfl 2 (by decide) hf_PressedPlains_Book_18 (fun _ h9 => h9) rfl dX0_tellAnew_26 ?_
  refine lv_iload_n hx hb dX0_tellAnew_29 rfl (lv_at hl 4 rfl) ?_
  refine lv_iload hx hb dX0_tellAnew_30 (lv_at hl 0 rfl) ?_
  refine pq_iast hx hb hK hP hD hS 3 0 rfl rfl e (by omega) (by decide) dX0_tellAnew_32 (fun H locs hP hD hS => ?_)
  have hP : va_P D vwCl [(h, .inr (0, [.ref a0, .ref a1, .ref a2, .ref a3, .ref a4, .ref a5, .int B.2.2.2.2.1, .int B.2.2.2.2.2.1, .int B.2.2.2.2.2.2])), (a0, .inl (cI, 128, .inl fi)), (a1, .inl (cI, 128, .inl la)), (a2, .inl (cI, 128, .inl (upd B.1 e (bMax (B.1 (2 * e)) (B.1 ((2 * e) + 1)))))), (a3, .inl (cI, 128, .inl B.2.1)), (a4, .inl (cI, 128, .inl B.2.2.1)), (a5, .inl (cI, 128, .inl B.2.2.2.1))] H := hP
  have hD : va_D A [(h, .inr (0, [.ref a0, .ref a1, .ref a2, .ref a3, .ref a4, .ref a5, .int B.2.2.2.2.1, .int B.2.2.2.2.2.1, .int B.2.2.2.2.2.2])), (a0, .inl (cI, 128, .inl fi)), (a1, .inl (cI, 128, .inl la)), (a2, .inl (cI, 128, .inl (upd B.1 e (bMax (B.1 (2 * e)) (B.1 ((2 * e) + 1)))))), (a3, .inl (cI, 128, .inl B.2.1)), (a4, .inl (cI, 128, .inl B.2.2.1)), (a5, .inl (cI, 128, .inl B.2.2.2.1))] := hD
  refine lv_aload_n hx hb dX0_tellAnew_33 rfl (lv_at hl 3 rfl) ?_
  refine va_get (D := D) (ci := 0) (v := .ref a4) (C := RX0) (T := TX0) (N := 9) hx hb hts hin_X0 hown hK hP 0 rfl rfl 4 (by decide) hf_PressedPlains_Book_24 (fun _ h9 => h9) rfl dX0_tellAnew_34 ?_
  refine lv_iload_n hx hb dX0_tellAnew_37 rfl (lv_at hl 4 rfl) ?_
  refine lv_aload_n hx hb dX0_tellAnew_38 rfl (lv_at hl 3 rfl) ?_
  refine lv_iload_n hx hb dX0_tellAnew_39 rfl (lv_at hl 2 rfl) ?_
  refine lv_iload hx hb dX0_tellAnew_40 (lv_at hl 0 rfl) ?_
  refine pq_callV (wr := []) (own := RX0) (nL := 5) (q0 := 0) (ci := 0) [0, 1, 2, 3, 4, 5, 6] [] [.int (nI (2 * e)), .int (bMax (B.1 (2 * e)) (B.1 ((2 * e) + 1)))] (mX0_manyAt l D cI h a0 a1 a2 a3 a4 a5 fi la (upd B.1 e (bMax (B.1 (2 * e)) (B.1 ((2 * e) + 1))), B.2.1, B.2.2.1, B.2.2.2.1, B.2.2.2.2) (2 * e) (bMax (B.1 (2 * e)) (B.1 ((2 * e) + 1))) (by omega)) ⟨hx, hb, hml, hown, hts⟩ (cwV 2 hts gX0_tellAnew_X0_manyAt rfl rfl rfl (by decide +kernel) ⟨by dsimp only [pq_R]; omega, by dsimp only [pq_R]; omega⟩) pq_bl0 (fun _ _ _ => trivial) hK hP hD hS hA rfl (by decide) rfl (by decide) (by decide) rfl rfl rfl rfl hl.1 rfl (Nat.le_of_ble_eq_true rfl) dX0_tellAnew_42 ⟨by dsimp only [pq_R]; omega, by dsimp only [pq_R]; omega⟩ (fun v w1 H locs hq hP hD hS hz => ?_)
  obtain ⟨rfl, rfl⟩ := hq
  have hP : va_P D vwCl [(h, .inr (0, [.ref a0, .ref a1, .ref a2, .ref a3, .ref a4, .ref a5, .int B.2.2.2.2.1, .int B.2.2.2.2.2.1, .int B.2.2.2.2.2.2])), (a0, .inl (cI, 128, .inl fi)), (a1, .inl (cI, 128, .inl la)), (a2, .inl (cI, 128, .inl (upd B.1 e (bMax (B.1 (2 * e)) (B.1 ((2 * e) + 1)))))), (a3, .inl (cI, 128, .inl B.2.1)), (a4, .inl (cI, 128, .inl B.2.2.1)), (a5, .inl (cI, 128, .inl B.2.2.2.1))] H := hP
  have hD : va_D A [(h, .inr (0, [.ref a0, .ref a1, .ref a2, .ref a3, .ref a4, .ref a5, .int B.2.2.2.2.1, .int B.2.2.2.2.2.1, .int B.2.2.2.2.2.2])), (a0, .inl (cI, 128, .inl fi)), (a1, .inl (cI, 128, .inl la)), (a2, .inl (cI, 128, .inl (upd B.1 e (bMax (B.1 (2 * e)) (B.1 ((2 * e) + 1)))))), (a3, .inl (cI, 128, .inl B.2.1)), (a4, .inl (cI, 128, .inl B.2.2.1)), (a5, .inl (cI, 128, .inl B.2.2.2.1))] := hD
  refine W.eq (g2 := F0 m 45 ls [.int (bMany (upd B.1 e (bMax (B.1 (2 * e)) (B.1 ((2 * e) + 1)))) B.2.2.1 (2 * e) (bMax (B.1 (2 * e)) (B.1 ((2 * e) + 1)))), .int (nI e), .ref a4]) rfl ?_
  refine lv_aload_n hx hb dX0_tellAnew_45 rfl (lv_at hl 3 rfl) ?_
  refine lv_iload_n hx hb dX0_tellAnew_46 rfl (lv_at hl 1 rfl) ?_
  refine lv_iload hx hb dX0_tellAnew_47 (lv_at hl 0 rfl) ?_
  refine pq_callV (wr := []) (own := RX0) (nL := 5) (q0 := 0) (ci := 0) [0, 1, 2, 3, 4, 5, 6] [] [.int (nI ((2 * e) + 1)), .int (bMax (B.1 (2 * e)) (B.1 ((2 * e) + 1)))] (mX0_manyAt l D cI h a0 a1 a2 a3 a4 a5 fi la (upd B.1 e (bMax (B.1 (2 * e)) (B.1 ((2 * e) + 1))), B.2.1, B.2.2.1, B.2.2.2.1, B.2.2.2.2) ((2 * e) + 1) (bMax (B.1 (2 * e)) (B.1 ((2 * e) + 1))) (by omega)) ⟨hx, hb, hml, hown, hts⟩ (cwV 2 hts gX0_tellAnew_X0_manyAt rfl rfl rfl (by decide +kernel) ⟨by dsimp only [pq_R]; omega, by dsimp only [pq_R]; omega⟩) pq_bl0 (fun _ _ _ => trivial) hK hP hD hS hA rfl (by decide) rfl (by decide) (by decide) rfl rfl rfl rfl hl.1 rfl (Nat.le_of_ble_eq_true rfl) dX0_tellAnew_49 ⟨by dsimp only [pq_R]; omega, by dsimp only [pq_R]; omega⟩ (fun v w1 H locs hq hP hD hS hz => ?_)
  obtain ⟨rfl, rfl⟩ := hq
  have hP : va_P D vwCl [(h, .inr (0, [.ref a0, .ref a1, .ref a2, .ref a3, .ref a4, .ref a5, .int B.2.2.2.2.1, .int B.2.2.2.2.2.1, .int B.2.2.2.2.2.2])), (a0, .inl (cI, 128, .inl fi)), (a1, .inl (cI, 128, .inl la)), (a2, .inl (cI, 128, .inl (upd B.1 e (bMax (B.1 (2 * e)) (B.1 ((2 * e) + 1)))))), (a3, .inl (cI, 128, .inl B.2.1)), (a4, .inl (cI, 128, .inl B.2.2.1)), (a5, .inl (cI, 128, .inl B.2.2.2.1))] H := hP
  have hD : va_D A [(h, .inr (0, [.ref a0, .ref a1, .ref a2, .ref a3, .ref a4, .ref a5, .int B.2.2.2.2.1, .int B.2.2.2.2.2.1, .int B.2.2.2.2.2.2])), (a0, .inl (cI, 128, .inl fi)), (a1, .inl (cI, 128, .inl la)), (a2, .inl (cI, 128, .inl (upd B.1 e (bMax (B.1 (2 * e)) (B.1 ((2 * e) + 1)))))), (a3, .inl (cI, 128, .inl B.2.1)), (a4, .inl (cI, 128, .inl B.2.2.1)), (a5, .inl (cI, 128, .inl B.2.2.2.1))] := hD
  refine W.eq (g2 := F0 m 52 ls [.int (bMany (upd B.1 e (bMax (B.1 (2 * e)) (B.1 ((2 * e) + 1)))) B.2.2.1 ((2 * e) + 1) (bMax (B.1 (2 * e)) (B.1 ((2 * e) + 1)))), .int (bMany (upd B.1 e (bMax (B.1 (2 * e)) (B.1 ((2 * e) + 1)))) B.2.2.1 (2 * e) (bMax (B.1 (2 * e)) (B.1 ((2 * e) + 1)))), .int (nI e), .ref a4]) rfl ?_
  refine lv_iadd hx hb dX0_tellAnew_52 ?_
  refine pq_iast hx hb hK hP hD hS 5 0 rfl rfl e (by omega) (by decide) dX0_tellAnew_53 (fun H locs hP hD hS => ?_)
  have hP : va_P D vwCl [(h, .inr (0, [.ref a0, .ref a1, .ref a2, .ref a3, .ref a4, .ref a5, .int B.2.2.2.2.1, .int B.2.2.2.2.2.1, .int B.2.2.2.2.2.2])), (a0, .inl (cI, 128, .inl fi)), (a1, .inl (cI, 128, .inl la)), (a2, .inl (cI, 128, .inl (upd B.1 e (bMax (B.1 (2 * e)) (B.1 ((2 * e) + 1)))))), (a3, .inl (cI, 128, .inl B.2.1)), (a4, .inl (cI, 128, .inl (upd B.2.2.1 e ((bMany (upd B.1 e (bMax (B.1 (2 * e)) (B.1 ((2 * e) + 1)))) B.2.2.1 (2 * e) (bMax (B.1 (2 * e)) (B.1 ((2 * e) + 1)))) + (bMany (upd B.1 e (bMax (B.1 (2 * e)) (B.1 ((2 * e) + 1)))) B.2.2.1 ((2 * e) + 1) (bMax (B.1 (2 * e)) (B.1 ((2 * e) + 1)))))))), (a5, .inl (cI, 128, .inl B.2.2.2.1))] H := hP
  have hD : va_D A [(h, .inr (0, [.ref a0, .ref a1, .ref a2, .ref a3, .ref a4, .ref a5, .int B.2.2.2.2.1, .int B.2.2.2.2.2.1, .int B.2.2.2.2.2.2])), (a0, .inl (cI, 128, .inl fi)), (a1, .inl (cI, 128, .inl la)), (a2, .inl (cI, 128, .inl (upd B.1 e (bMax (B.1 (2 * e)) (B.1 ((2 * e) + 1)))))), (a3, .inl (cI, 128, .inl B.2.1)), (a4, .inl (cI, 128, .inl (upd B.2.2.1 e ((bMany (upd B.1 e (bMax (B.1 (2 * e)) (B.1 ((2 * e) + 1)))) B.2.2.1 (2 * e) (bMax (B.1 (2 * e)) (B.1 ((2 * e) + 1)))) + (bMany (upd B.1 e (bMax (B.1 (2 * e)) (B.1 ((2 * e) + 1)))) B.2.2.1 ((2 * e) + 1) (bMax (B.1 (2 * e)) (B.1 ((2 * e) + 1)))))))), (a5, .inl (cI, 128, .inl B.2.2.2.1))] := hD
  refine lv_aload_n hx hb dX0_tellAnew_54 rfl (lv_at hl 3 rfl) ?_
  refine va_get (D := D) (ci := 0) (v := .ref a3) (C := RX0) (T := TX0) (N := 9) hx hb hts hin_X0 hown hK hP 0 rfl rfl 3 (by decide) hf_PressedPlains_Book_21 (fun _ h9 => h9) rfl dX0_tellAnew_55 ?_
  refine lv_iload_n hx hb dX0_tellAnew_58 rfl (lv_at hl 4 rfl) ?_
  refine lv_aload_n hx hb dX0_tellAnew_59 rfl (lv_at hl 3 rfl) ?_
  refine lv_iload hx hb dX0_tellAnew_60 (lv_at hl 0 rfl) ?_
  refine lv_iload_n hx hb dX0_tellAnew_62 rfl (lv_at hl 2 rfl) ?_
  refine pq_callV (wr := []) (own := RX0) (nL := 5) (q0 := 0) (ci := 0) [0, 1, 2, 3, 4, 5, 6] [] [.int (bMax (B.1 (2 * e)) (B.1 ((2 * e) + 1))), .int (nI (2 * e))] (mX0_greatestLessThan l D cI h a0 a1 a2 a3 a4 a5 fi la (upd B.1 e (bMax (B.1 (2 * e)) (B.1 ((2 * e) + 1))), B.2.1, upd B.2.2.1 e ((bMany (upd B.1 e (bMax (B.1 (2 * e)) (B.1 ((2 * e) + 1)))) B.2.2.1 (2 * e) (bMax (B.1 (2 * e)) (B.1 ((2 * e) + 1)))) + (bMany (upd B.1 e (bMax (B.1 (2 * e)) (B.1 ((2 * e) + 1)))) B.2.2.1 ((2 * e) + 1) (bMax (B.1 (2 * e)) (B.1 ((2 * e) + 1))))), B.2.2.2.1, B.2.2.2.2) (bMax (B.1 (2 * e)) (B.1 ((2 * e) + 1))) (2 * e) (by omega)) ⟨hx, hb, hml, hown, hts⟩ (cwV 2 hts gX0_tellAnew_X0_greatestLessThan rfl rfl rfl (by decide +kernel) ⟨by dsimp only [pq_R]; omega, by dsimp only [pq_R]; omega⟩) pq_bl0 (fun _ _ _ => trivial) hK hP hD hS hA rfl (by decide) rfl (by decide) (by decide) rfl rfl rfl rfl hl.1 rfl (Nat.le_of_ble_eq_true rfl) dX0_tellAnew_63 ⟨by dsimp only [pq_R]; omega, by dsimp only [pq_R]; omega⟩ (fun v w1 H locs hq hP hD hS hz => ?_)
  obtain ⟨rfl, rfl⟩ := hq
  have hP : va_P D vwCl [(h, .inr (0, [.ref a0, .ref a1, .ref a2, .ref a3, .ref a4, .ref a5, .int B.2.2.2.2.1, .int B.2.2.2.2.2.1, .int B.2.2.2.2.2.2])), (a0, .inl (cI, 128, .inl fi)), (a1, .inl (cI, 128, .inl la)), (a2, .inl (cI, 128, .inl (upd B.1 e (bMax (B.1 (2 * e)) (B.1 ((2 * e) + 1)))))), (a3, .inl (cI, 128, .inl B.2.1)), (a4, .inl (cI, 128, .inl (upd B.2.2.1 e ((bMany (upd B.1 e (bMax (B.1 (2 * e)) (B.1 ((2 * e) + 1)))) B.2.2.1 (2 * e) (bMax (B.1 (2 * e)) (B.1 ((2 * e) + 1)))) + (bMany (upd B.1 e (bMax (B.1 (2 * e)) (B.1 ((2 * e) + 1)))) B.2.2.1 ((2 * e) + 1) (bMax (B.1 (2 * e)) (B.1 ((2 * e) + 1)))))))), (a5, .inl (cI, 128, .inl B.2.2.2.1))] H := hP
  have hD : va_D A [(h, .inr (0, [.ref a0, .ref a1, .ref a2, .ref a3, .ref a4, .ref a5, .int B.2.2.2.2.1, .int B.2.2.2.2.2.1, .int B.2.2.2.2.2.2])), (a0, .inl (cI, 128, .inl fi)), (a1, .inl (cI, 128, .inl la)), (a2, .inl (cI, 128, .inl (upd B.1 e (bMax (B.1 (2 * e)) (B.1 ((2 * e) + 1)))))), (a3, .inl (cI, 128, .inl B.2.1)), (a4, .inl (cI, 128, .inl (upd B.2.2.1 e ((bMany (upd B.1 e (bMax (B.1 (2 * e)) (B.1 ((2 * e) + 1)))) B.2.2.1 (2 * e) (bMax (B.1 (2 * e)) (B.1 ((2 * e) + 1)))) + (bMany (upd B.1 e (bMax (B.1 (2 * e)) (B.1 ((2 * e) + 1)))) B.2.2.1 ((2 * e) + 1) (bMax (B.1 (2 * e)) (B.1 ((2 * e) + 1)))))))), (a5, .inl (cI, 128, .inl B.2.2.2.1))] := hD
  refine W.eq (g2 := F0 m 66 ls [.int (bLess (upd B.1 e (bMax (B.1 (2 * e)) (B.1 ((2 * e) + 1)))) B.2.1 (bMax (B.1 (2 * e)) (B.1 ((2 * e) + 1))) (2 * e)), .int (nI e), .ref a3]) rfl ?_
  refine lv_aload_n hx hb dX0_tellAnew_66 rfl (lv_at hl 3 rfl) ?_
  refine lv_iload hx hb dX0_tellAnew_67 (lv_at hl 0 rfl) ?_
  refine lv_iload_n hx hb dX0_tellAnew_69 rfl (lv_at hl 1 rfl) ?_
  refine pq_callV (wr := []) (own := RX0) (nL := 5) (q0 := 0) (ci := 0) [0, 1, 2, 3, 4, 5, 6] [] [.int (bMax (B.1 (2 * e)) (B.1 ((2 * e) + 1))), .int (nI ((2 * e) + 1))] (mX0_greatestLessThan l D cI h a0 a1 a2 a3 a4 a5 fi la (upd B.1 e (bMax (B.1 (2 * e)) (B.1 ((2 * e) + 1))), B.2.1, upd B.2.2.1 e ((bMany (upd B.1 e (bMax (B.1 (2 * e)) (B.1 ((2 * e) + 1)))) B.2.2.1 (2 * e) (bMax (B.1 (2 * e)) (B.1 ((2 * e) + 1)))) + (bMany (upd B.1 e (bMax (B.1 (2 * e)) (B.1 ((2 * e) + 1)))) B.2.2.1 ((2 * e) + 1) (bMax (B.1 (2 * e)) (B.1 ((2 * e) + 1))))), B.2.2.2.1, B.2.2.2.2) (bMax (B.1 (2 * e)) (B.1 ((2 * e) + 1))) ((2 * e) + 1) (by omega)) ⟨hx, hb, hml, hown, hts⟩ (cwV 2 hts gX0_tellAnew_X0_greatestLessThan rfl rfl rfl (by decide +kernel) ⟨by dsimp only [pq_R]; omega, by dsimp only [pq_R]; omega⟩) pq_bl0 (fun _ _ _ => trivial) hK hP hD hS hA rfl (by decide) rfl (by decide) (by decide) rfl rfl rfl rfl hl.1 rfl (Nat.le_of_ble_eq_true rfl) dX0_tellAnew_70 ⟨by dsimp only [pq_R]; omega, by dsimp only [pq_R]; omega⟩ (fun v w1 H locs hq hP hD hS hz => ?_)
  obtain ⟨rfl, rfl⟩ := hq
  have hP : va_P D vwCl [(h, .inr (0, [.ref a0, .ref a1, .ref a2, .ref a3, .ref a4, .ref a5, .int B.2.2.2.2.1, .int B.2.2.2.2.2.1, .int B.2.2.2.2.2.2])), (a0, .inl (cI, 128, .inl fi)), (a1, .inl (cI, 128, .inl la)), (a2, .inl (cI, 128, .inl (upd B.1 e (bMax (B.1 (2 * e)) (B.1 ((2 * e) + 1)))))), (a3, .inl (cI, 128, .inl B.2.1)), (a4, .inl (cI, 128, .inl (upd B.2.2.1 e ((bMany (upd B.1 e (bMax (B.1 (2 * e)) (B.1 ((2 * e) + 1)))) B.2.2.1 (2 * e) (bMax (B.1 (2 * e)) (B.1 ((2 * e) + 1)))) + (bMany (upd B.1 e (bMax (B.1 (2 * e)) (B.1 ((2 * e) + 1)))) B.2.2.1 ((2 * e) + 1) (bMax (B.1 (2 * e)) (B.1 ((2 * e) + 1)))))))), (a5, .inl (cI, 128, .inl B.2.2.2.1))] H := hP
  have hD : va_D A [(h, .inr (0, [.ref a0, .ref a1, .ref a2, .ref a3, .ref a4, .ref a5, .int B.2.2.2.2.1, .int B.2.2.2.2.2.1, .int B.2.2.2.2.2.2])), (a0, .inl (cI, 128, .inl fi)), (a1, .inl (cI, 128, .inl la)), (a2, .inl (cI, 128, .inl (upd B.1 e (bMax (B.1 (2 * e)) (B.1 ((2 * e) + 1)))))), (a3, .inl (cI, 128, .inl B.2.1)), (a4, .inl (cI, 128, .inl (upd B.2.2.1 e ((bMany (upd B.1 e (bMax (B.1 (2 * e)) (B.1 ((2 * e) + 1)))) B.2.2.1 (2 * e) (bMax (B.1 (2 * e)) (B.1 ((2 * e) + 1)))) + (bMany (upd B.1 e (bMax (B.1 (2 * e)) (B.1 ((2 * e) + 1)))) B.2.2.1 ((2 * e) + 1) (bMax (B.1 (2 * e)) (B.1 ((2 * e) + 1)))))))), (a5, .inl (cI, 128, .inl B.2.2.2.1))] := hD
  refine W.eq (g2 := F0 m 73 ls [.int (bLess (upd B.1 e (bMax (B.1 (2 * e)) (B.1 ((2 * e) + 1)))) B.2.1 (bMax (B.1 (2 * e)) (B.1 ((2 * e) + 1))) ((2 * e) + 1)), .int (bLess (upd B.1 e (bMax (B.1 (2 * e)) (B.1 ((2 * e) + 1)))) B.2.1 (bMax (B.1 (2 * e)) (B.1 ((2 * e) + 1))) (2 * e)), .int (nI e), .ref a3]) rfl ?_
  refine va_mmax hx hb (hml.trans hl.1.symm) hown hm1_max101 hm2_max hm3 hm4_max (by first | exact Nat.le_of_ble_eq_true rfl | (dsimp only [pq_R]; omega)) (by first | exact Nat.le_of_ble_eq_true rfl | (simp only [List.map_nil, List.map_cons, List.sum_nil, List.sum_cons, pq_R, Value.category]; omega)) (Nat.le_of_ble_eq_true rfl) (Nat.le_of_ble_eq_true rfl) dX0_tellAnew_73 ?_
  refine pq_top (bMax (bLess (upd B.1 e (bMax (B.1 (2 * e)) (B.1 ((2 * e) + 1)))) B.2.1 (bMax (B.1 (2 * e)) (B.1 ((2 * e) + 1))) (2 * e)) (bLess (upd B.1 e (bMax (B.1 (2 * e)) (B.1 ((2 * e) + 1)))) B.2.1 (bMax (B.1 (2 * e)) (B.1 ((2 * e) + 1))) ((2 * e) + 1))) rfl ?_
  refine pq_iast hx hb hK hP hD hS 4 0 rfl rfl e (by omega) (by decide) dX0_tellAnew_76 (fun H locs hP hD hS => ?_)
  have hP : va_P D vwCl [(h, .inr (0, [.ref a0, .ref a1, .ref a2, .ref a3, .ref a4, .ref a5, .int B.2.2.2.2.1, .int B.2.2.2.2.2.1, .int B.2.2.2.2.2.2])), (a0, .inl (cI, 128, .inl fi)), (a1, .inl (cI, 128, .inl la)), (a2, .inl (cI, 128, .inl (upd B.1 e (bMax (B.1 (2 * e)) (B.1 ((2 * e) + 1)))))), (a3, .inl (cI, 128, .inl (upd B.2.1 e (bMax (bLess (upd B.1 e (bMax (B.1 (2 * e)) (B.1 ((2 * e) + 1)))) B.2.1 (bMax (B.1 (2 * e)) (B.1 ((2 * e) + 1))) (2 * e)) (bLess (upd B.1 e (bMax (B.1 (2 * e)) (B.1 ((2 * e) + 1)))) B.2.1 (bMax (B.1 (2 * e)) (B.1 ((2 * e) + 1))) ((2 * e) + 1)))))), (a4, .inl (cI, 128, .inl (upd B.2.2.1 e ((bMany (upd B.1 e (bMax (B.1 (2 * e)) (B.1 ((2 * e) + 1)))) B.2.2.1 (2 * e) (bMax (B.1 (2 * e)) (B.1 ((2 * e) + 1)))) + (bMany (upd B.1 e (bMax (B.1 (2 * e)) (B.1 ((2 * e) + 1)))) B.2.2.1 ((2 * e) + 1) (bMax (B.1 (2 * e)) (B.1 ((2 * e) + 1)))))))), (a5, .inl (cI, 128, .inl B.2.2.2.1))] H := hP
  have hD : va_D A [(h, .inr (0, [.ref a0, .ref a1, .ref a2, .ref a3, .ref a4, .ref a5, .int B.2.2.2.2.1, .int B.2.2.2.2.2.1, .int B.2.2.2.2.2.2])), (a0, .inl (cI, 128, .inl fi)), (a1, .inl (cI, 128, .inl la)), (a2, .inl (cI, 128, .inl (upd B.1 e (bMax (B.1 (2 * e)) (B.1 ((2 * e) + 1)))))), (a3, .inl (cI, 128, .inl (upd B.2.1 e (bMax (bLess (upd B.1 e (bMax (B.1 (2 * e)) (B.1 ((2 * e) + 1)))) B.2.1 (bMax (B.1 (2 * e)) (B.1 ((2 * e) + 1))) (2 * e)) (bLess (upd B.1 e (bMax (B.1 (2 * e)) (B.1 ((2 * e) + 1)))) B.2.1 (bMax (B.1 (2 * e)) (B.1 ((2 * e) + 1))) ((2 * e) + 1)))))), (a4, .inl (cI, 128, .inl (upd B.2.2.1 e ((bMany (upd B.1 e (bMax (B.1 (2 * e)) (B.1 ((2 * e) + 1)))) B.2.2.1 (2 * e) (bMax (B.1 (2 * e)) (B.1 ((2 * e) + 1)))) + (bMany (upd B.1 e (bMax (B.1 (2 * e)) (B.1 ((2 * e) + 1)))) B.2.2.1 ((2 * e) + 1) (bMax (B.1 (2 * e)) (B.1 ((2 * e) + 1)))))))), (a5, .inl (cI, 128, .inl B.2.2.2.1))] := hD
  refine lv_aload_n hx hb dX0_tellAnew_77 rfl (lv_at hl 3 rfl) ?_
  refine va_get (D := D) (ci := 0) (v := .ref a5) (C := RX0) (T := TX0) (N := 9) hx hb hts hin_X0 hown hK hP 0 rfl rfl 5 (by decide) hf_PressedPlains_Book_27 (fun _ h9 => h9) rfl dX0_tellAnew_78 ?_
  refine lv_iload_n hx hb dX0_tellAnew_81 rfl (lv_at hl 4 rfl) ?_
  refine lv_aload_n hx hb dX0_tellAnew_82 rfl (lv_at hl 3 rfl) ?_
  refine va_get (D := D) (ci := 0) (v := .ref a5) (C := RX0) (T := TX0) (N := 9) hx hb hts hin_X0 hown hK hP 0 rfl rfl 5 (by decide) hf_PressedPlains_Book_27 (fun _ h9 => h9) rfl dX0_tellAnew_83 ?_
  refine lv_iload_n hx hb dX0_tellAnew_86 rfl (lv_at hl 2 rfl) ?_
  refine pq_iald hx hb hK hP 6 0 rfl rfl (2 * e) (by omega) (by decide) dX0_tellAnew_87 ?_
  refine lv_aload_n hx hb dX0_tellAnew_88 rfl (lv_at hl 3 rfl) ?_
  refine va_get (D := D) (ci := 0) (v := .ref a5) (C := RX0) (T := TX0) (N := 9) hx hb hts hin_X0 hown hK hP 0 rfl rfl 5 (by decide) hf_PressedPlains_Book_27 (fun _ h9 => h9) rfl dX0_tellAnew_89 ?_
  refine lv_iload_n hx hb dX0_tellAnew_92 rfl (lv_at hl 1 rfl) ?_
  refine pq_iald hx hb hK hP 6 0 rfl rfl ((2 * e) + 1) (by omega) (by decide) dX0_tellAnew_93 ?_
  refine lv_iadd hx hb dX0_tellAnew_94 ?_
  refine pq_iast hx hb hK hP hD hS 6 0 rfl rfl e (by omega) (by decide) dX0_tellAnew_95 (fun H locs hP hD hS => ?_)
  have hP : va_P D vwCl [(h, .inr (0, [.ref a0, .ref a1, .ref a2, .ref a3, .ref a4, .ref a5, .int B.2.2.2.2.1, .int B.2.2.2.2.2.1, .int B.2.2.2.2.2.2])), (a0, .inl (cI, 128, .inl fi)), (a1, .inl (cI, 128, .inl la)), (a2, .inl (cI, 128, .inl (upd B.1 e (bMax (B.1 (2 * e)) (B.1 ((2 * e) + 1)))))), (a3, .inl (cI, 128, .inl (upd B.2.1 e (bMax (bLess (upd B.1 e (bMax (B.1 (2 * e)) (B.1 ((2 * e) + 1)))) B.2.1 (bMax (B.1 (2 * e)) (B.1 ((2 * e) + 1))) (2 * e)) (bLess (upd B.1 e (bMax (B.1 (2 * e)) (B.1 ((2 * e) + 1)))) B.2.1 (bMax (B.1 (2 * e)) (B.1 ((2 * e) + 1))) ((2 * e) + 1)))))), (a4, .inl (cI, 128, .inl (upd B.2.2.1 e ((bMany (upd B.1 e (bMax (B.1 (2 * e)) (B.1 ((2 * e) + 1)))) B.2.2.1 (2 * e) (bMax (B.1 (2 * e)) (B.1 ((2 * e) + 1)))) + (bMany (upd B.1 e (bMax (B.1 (2 * e)) (B.1 ((2 * e) + 1)))) B.2.2.1 ((2 * e) + 1) (bMax (B.1 (2 * e)) (B.1 ((2 * e) + 1)))))))), (a5, .inl (cI, 128, .inl (upd B.2.2.2.1 e ((B.2.2.2.1 (2 * e)) + (B.2.2.2.1 ((2 * e) + 1))))))] H := hP
  have hD : va_D A [(h, .inr (0, [.ref a0, .ref a1, .ref a2, .ref a3, .ref a4, .ref a5, .int B.2.2.2.2.1, .int B.2.2.2.2.2.1, .int B.2.2.2.2.2.2])), (a0, .inl (cI, 128, .inl fi)), (a1, .inl (cI, 128, .inl la)), (a2, .inl (cI, 128, .inl (upd B.1 e (bMax (B.1 (2 * e)) (B.1 ((2 * e) + 1)))))), (a3, .inl (cI, 128, .inl (upd B.2.1 e (bMax (bLess (upd B.1 e (bMax (B.1 (2 * e)) (B.1 ((2 * e) + 1)))) B.2.1 (bMax (B.1 (2 * e)) (B.1 ((2 * e) + 1))) (2 * e)) (bLess (upd B.1 e (bMax (B.1 (2 * e)) (B.1 ((2 * e) + 1)))) B.2.1 (bMax (B.1 (2 * e)) (B.1 ((2 * e) + 1))) ((2 * e) + 1)))))), (a4, .inl (cI, 128, .inl (upd B.2.2.1 e ((bMany (upd B.1 e (bMax (B.1 (2 * e)) (B.1 ((2 * e) + 1)))) B.2.2.1 (2 * e) (bMax (B.1 (2 * e)) (B.1 ((2 * e) + 1)))) + (bMany (upd B.1 e (bMax (B.1 (2 * e)) (B.1 ((2 * e) + 1)))) B.2.2.1 ((2 * e) + 1) (bMax (B.1 (2 * e)) (B.1 ((2 * e) + 1)))))))), (a5, .inl (cI, 128, .inl (upd B.2.2.2.1 e ((B.2.2.2.1 (2 * e)) + (B.2.2.2.1 ((2 * e) + 1))))))] := hD
  exact pq_vret hQ hx hb hr hlocks hK hS hP hD dX0_tellAnew_96 (by omega) (by omega) (⟨rfl, rfl⟩)
