set_option maxHeartbeats 4000000 in
set_option maxRecDepth 100000 in
theorem mX3_in (l : Launch) (D : va_G) (cI : ClassId) (x lo0 hi0 : Int32) : pq_M l yX3_in wsX3_in 0 0 0 0 D [(cI, .int)] pq_0 [] [.int x, .int lo0, .int hi0] (fun v w1 => v = some (.int (if ¬ bRng x lo0 hi0 then 1 else 0)) ∧ w1 = []) := by
  refine pq_enter (cc := cX3_in) (maxL := 3) (ret := (some .boolean)) (by decide) rfl (Nat.le_of_ble_eq_true rfl) ?_
  intro p ev s m args below meth cd A ls Q H locs hx hb hr hml hts hown hlocks hnm hK hP hD hS hA hE hl hQ
  have hl : lv_has ls 3 [(0, .int x), (1, .int lo0), (2, .int hi0)] := hl
  have hP : va_P D vwCl [] H := hP
  have hD : va_D A [] := hD
  refine lv_iload_n hx hb dX3_in_0 rfl (lv_at hl 0 rfl) ?_
  refine lv_iload_n hx hb dX3_in_1 rfl (lv_at hl 1 rfl) ?_
  refine lv_icmp_lt (tgt := 14) hx hb dX3_in_2 (by decide) (fun c_1 => ?_) (fun c_1 => ?_)
  · refine lv_iconst (v := 0) hx hb dX3_in_14 (by decide) ?_
    exact pq_zret hQ hx hb hr hlocks hK hS hP hD dX3_in_15 (by omega) (by omega) (by decide) (⟨by rw [if_neg (show ¬ ¬ bRng x lo0 hi0 from fun h => h (Or.inl c_1))], rfl⟩)
  · refine lv_iload_n hx hb dX3_in_5 rfl (lv_at hl 0 rfl) ?_
    refine lv_iload_n hx hb dX3_in_6 rfl (lv_at hl 2 rfl) ?_
    refine lv_icmp_gt (tgt := 14) hx hb dX3_in_7 (by decide) (fun c_2 => ?_) (fun c_2 => ?_)
    · refine lv_iconst (v := 0) hx hb dX3_in_14 (by decide) ?_
      exact pq_zret hQ hx hb hr hlocks hK hS hP hD dX3_in_15 (by omega) (by omega) (by decide) (⟨by rw [if_neg (show ¬ ¬ bRng x lo0 hi0 from fun h => h (Or.inr (i_nle c_2)))], rfl⟩)
    · refine lv_iconst (v := 1) hx hb dX3_in_10 (by decide) ?_
      refine lv_goto (tgt := 15) hx hb dX3_in_11 (by decide) ?_
      exact pq_zret hQ hx hb hr hlocks hK hS hP hD dX3_in_15 (by omega) (by omega) (by decide) (⟨by rw [if_pos (show ¬ bRng x lo0 hi0 from fun h => h.elim c_1 (fun q => q (i_le c_2)))], rfl⟩)

set_option maxHeartbeats 4000000 in
set_option maxRecDepth 100000 in
theorem mX3_isFine (l : Launch) (D : va_G) (cI : ClassId) (mo z1 z2 z3 z4 z5 z6 z7 z8 z9 : Nat) (col : Int32) (hs cs fi la : Nat → Int32) (B : BK) (td : Nat → Int32) (lf laid piled prs thr : Int32) (pl : Int32) : pq_M l yX3_isFine wsX3_isFine 0 0 0 0 D [(cI, .int)] pq_0 (mdW mo z1 z2 z3 z4 z5 z6 z7 z8 z9 cI col hs cs fi la B td lf laid piled prs thr) [.ref mo, .int pl] (fun v w1 => v = some (.int (if pl = 0 then 1 else 0)) ∧ w1 = mdW mo z1 z2 z3 z4 z5 z6 z7 z8 z9 cI col hs cs fi la B td lf laid piled prs pl) := by
  refine pq_enter (cc := cX3_isFine) (maxL := 2) (ret := (some .boolean)) (by decide) rfl (Nat.le_of_ble_eq_true rfl) ?_
  intro p ev s m args below meth cd A ls Q H locs hx hb hr hml hts hown hlocks hnm hK hP hD hS hA hE hl hQ
  have hl : lv_has ls 2 [(0, .ref mo), (1, .int pl)] := hl
  have hP : va_P D vwCl [(mo, .inr (3, [.int col, .ref z1, .ref z2, .ref z3, .ref z4, .ref z5, .ref z6, .ref z7, .ref z8, .ref z9, .int lf, .int B.2.2.2.2.1, .int B.2.2.2.2.2.1, .int B.2.2.2.2.2.2, .int laid, .int piled, .int prs, .int thr])), (z1, .inl (cI, 64, .inl hs)), (z2, .inl (cI, 64, .inl cs)), (z3, .inl (cI, 128, .inl fi)), (z4, .inl (cI, 128, .inl la)), (z5, .inl (cI, 128, .inl B.1)), (z6, .inl (cI, 128, .inl B.2.1)), (z7, .inl (cI, 128, .inl B.2.2.1)), (z8, .inl (cI, 128, .inl B.2.2.2.1)), (z9, .inl (cI, 64, .inl td))] H := hP
  have hD : va_D A [(mo, .inr (3, [.int col, .ref z1, .ref z2, .ref z3, .ref z4, .ref z5, .ref z6, .ref z7, .ref z8, .ref z9, .int lf, .int B.2.2.2.2.1, .int B.2.2.2.2.2.1, .int B.2.2.2.2.2.2, .int laid, .int piled, .int prs, .int thr])), (z1, .inl (cI, 64, .inl hs)), (z2, .inl (cI, 64, .inl cs)), (z3, .inl (cI, 128, .inl fi)), (z4, .inl (cI, 128, .inl la)), (z5, .inl (cI, 128, .inl B.1)), (z6, .inl (cI, 128, .inl B.2.1)), (z7, .inl (cI, 128, .inl B.2.2.1)), (z8, .inl (cI, 128, .inl B.2.2.2.1)), (z9, .inl (cI, 64, .inl td))] := hD
  have hin_X3 : ∀ w ∈ wsX30, w ∈ wsX3_isFine := by decide +kernel
  have hf_PressedPlainsModel_41 := hts (.fieldLink RX3 41 "PressedPlainsModel" "thrown" "I") (by decide +kernel)
  refine lv_aload_n hx hb dX3_isFine_0 rfl (lv_at hl 0 rfl) ?_
  refine lv_iload_n hx hb dX3_isFine_1 rfl (lv_at hl 1 rfl) ?_
  refine va_put (D := D) (ci := 3) (v := .int pl) (ty := .int) (C := RX3) (T := TX3) (N := 18) hx hb hts hin_X3 tyX3 tyX3_ok nmX3 hown hK hP hD hS 0 rfl rfl 17 (by decide) hf_PressedPlainsModel_41 (fun _ h9 => h9) rfl (by decide +kernel) rfl rfl (Nat.le_of_ble_eq_true rfl) dX3_isFine_2 (fun H locs hP hD hS => ?_)
  have hP : va_P D vwCl [(mo, .inr (3, [.int col, .ref z1, .ref z2, .ref z3, .ref z4, .ref z5, .ref z6, .ref z7, .ref z8, .ref z9, .int lf, .int B.2.2.2.2.1, .int B.2.2.2.2.2.1, .int B.2.2.2.2.2.2, .int laid, .int piled, .int prs, .int pl])), (z1, .inl (cI, 64, .inl hs)), (z2, .inl (cI, 64, .inl cs)), (z3, .inl (cI, 128, .inl fi)), (z4, .inl (cI, 128, .inl la)), (z5, .inl (cI, 128, .inl B.1)), (z6, .inl (cI, 128, .inl B.2.1)), (z7, .inl (cI, 128, .inl B.2.2.1)), (z8, .inl (cI, 128, .inl B.2.2.2.1)), (z9, .inl (cI, 64, .inl td))] H := hP
  have hD : va_D A [(mo, .inr (3, [.int col, .ref z1, .ref z2, .ref z3, .ref z4, .ref z5, .ref z6, .ref z7, .ref z8, .ref z9, .int lf, .int B.2.2.2.2.1, .int B.2.2.2.2.2.1, .int B.2.2.2.2.2.2, .int laid, .int piled, .int prs, .int pl])), (z1, .inl (cI, 64, .inl hs)), (z2, .inl (cI, 64, .inl cs)), (z3, .inl (cI, 128, .inl fi)), (z4, .inl (cI, 128, .inl la)), (z5, .inl (cI, 128, .inl B.1)), (z6, .inl (cI, 128, .inl B.2.1)), (z7, .inl (cI, 128, .inl B.2.2.1)), (z8, .inl (cI, 128, .inl B.2.2.2.1)), (z9, .inl (cI, 64, .inl td))] := hD
  refine lv_iload_n hx hb dX3_isFine_5 rfl (lv_at hl 1 rfl) ?_
  refine lv_if_ne (tgt := 13) hx hb dX3_isFine_6 (by decide) (fun c_1 => ?_) (fun c_1 => ?_)
  · refine lv_iconst (v := 0) hx hb dX3_isFine_13 (by decide) ?_
    exact pq_zret hQ hx hb hr hlocks hK hS hP hD dX3_isFine_14 (by omega) (by omega) (by decide) (⟨by rw [if_neg c_1], rfl⟩)
  · refine lv_iconst (v := 1) hx hb dX3_isFine_9 (by decide) ?_
    refine lv_goto (tgt := 14) hx hb dX3_isFine_10 (by decide) ?_
    exact pq_zret hQ hx hb hr hlocks hK hS hP hD dX3_isFine_14 (by omega) (by omega) (by decide) (⟨by rw [if_pos c_1], rfl⟩)

set_option maxHeartbeats 4000000 in
set_option maxRecDepth 100000 in
theorem mX3_isColumn (l : Launch) (D : va_G) (cI : ClassId) (mo z1 z2 z3 z4 z5 z6 z7 z8 z9 : Nat) (col : Int32) (hs cs fi la : Nat → Int32) (B : BK) (td : Nat → Int32) (lf laid piled prs thr : Int32) (x : Int32) (N : Nat) (hN : col = nI N) (hN1 : 1 ≤ N) (hN2 : N ≤ 64) : pq_M l yX3_isColumn wsX3_isColumn 1 22 0 0 D [(cI, .int)] pq_0 (mdW mo z1 z2 z3 z4 z5 z6 z7 z8 z9 cI col hs cs fi la B td lf laid piled prs thr) [.ref mo, .int x] (fun v w1 => v = some (.int (if ¬ bCol col x then 1 else 0)) ∧ w1 = mdW mo z1 z2 z3 z4 z5 z6 z7 z8 z9 cI col hs cs fi la B td lf laid piled prs thr) := by
  refine pq_enter (cc := cX3_isColumn) (maxL := 2) (ret := (some .boolean)) (by decide) rfl (Nat.le_of_ble_eq_true rfl) ?_
  intro p ev s m args below meth cd A ls Q H locs hx hb hr hml hts hown hlocks hnm hK hP hD hS hA hE hl hQ
  have hl : lv_has ls 2 [(0, .ref mo), (1, .int x)] := hl
  have hP : va_P D vwCl [(mo, .inr (3, [.int col, .ref z1, .ref z2, .ref z3, .ref z4, .ref z5, .ref z6, .ref z7, .ref z8, .ref z9, .int lf, .int B.2.2.2.2.1, .int B.2.2.2.2.2.1, .int B.2.2.2.2.2.2, .int laid, .int piled, .int prs, .int thr])), (z1, .inl (cI, 64, .inl hs)), (z2, .inl (cI, 64, .inl cs)), (z3, .inl (cI, 128, .inl fi)), (z4, .inl (cI, 128, .inl la)), (z5, .inl (cI, 128, .inl B.1)), (z6, .inl (cI, 128, .inl B.2.1)), (z7, .inl (cI, 128, .inl B.2.2.1)), (z8, .inl (cI, 128, .inl B.2.2.2.1)), (z9, .inl (cI, 64, .inl td))] H := hP
  have hD : va_D A [(mo, .inr (3, [.int col, .ref z1, .ref z2, .ref z3, .ref z4, .ref z5, .ref z6, .ref z7, .ref z8, .ref z9, .int lf, .int B.2.2.2.2.1, .int B.2.2.2.2.2.1, .int B.2.2.2.2.2.2, .int laid, .int piled, .int prs, .int thr])), (z1, .inl (cI, 64, .inl hs)), (z2, .inl (cI, 64, .inl cs)), (z3, .inl (cI, 128, .inl fi)), (z4, .inl (cI, 128, .inl la)), (z5, .inl (cI, 128, .inl B.1)), (z6, .inl (cI, 128, .inl B.2.1)), (z7, .inl (cI, 128, .inl B.2.2.1)), (z8, .inl (cI, 128, .inl B.2.2.2.1)), (z9, .inl (cI, 64, .inl td))] := hD
  have hin_X3 : ∀ w ∈ wsX30, w ∈ wsX3_isColumn := by decide +kernel
  have hf_PressedPlainsModel_45 := hts (.fieldLink RX3 45 "PressedPlainsModel" "columns" "I") (by decide +kernel)
  refine lv_iload_n hx hb dX3_isColumn_0 rfl (lv_at hl 1 rfl) ?_
  refine lv_iconst (v := 0) hx hb dX3_isColumn_1 (by decide) ?_
  refine lv_aload_n hx hb dX3_isColumn_2 rfl (lv_at hl 0 rfl) ?_
  refine va_get (D := D) (ci := 3) (v := .int col) (C := RX3) (T := TX3) (N := 18) hx hb hts hin_X3 hown hK hP 0 rfl rfl 0 (by decide) hf_PressedPlainsModel_45 (fun _ h9 => h9) rfl dX3_isColumn_3 ?_
  refine pq_top (nI N) hN ?_
  refine lv_iconst (v := 1) hx hb dX3_isColumn_6 (by decide) ?_
  refine lv_isub hx hb dX3_isColumn_7 ?_
  refine pq_top (nI (N - 1)) (pk_sub (b := 1) (by omega)) ?_
  refine pq_callS (wr := [(mo, .inr (3, [.int col, .ref z1, .ref z2, .ref z3, .ref z4, .ref z5, .ref z6, .ref z7, .ref z8, .ref z9, .int lf, .int B.2.2.2.2.1, .int B.2.2.2.2.2.1, .int B.2.2.2.2.2.2, .int laid, .int piled, .int prs, .int thr])), (z1, .inl (cI, 64, .inl hs)), (z2, .inl (cI, 64, .inl cs)), (z3, .inl (cI, 128, .inl fi)), (z4, .inl (cI, 128, .inl la)), (z5, .inl (cI, 128, .inl B.1)), (z6, .inl (cI, 128, .inl B.2.1)), (z7, .inl (cI, 128, .inl B.2.2.1)), (z8, .inl (cI, 128, .inl B.2.2.2.1)), (z9, .inl (cI, 64, .inl td))]) (own := RX3) (nL := 2) [] [0, 1, 2, 3, 4, 5, 6, 7, 8, 9] [.int x, .int 0, .int (nI (N - 1))] (mX3_in l D cI  x 0 (nI (N - 1))) ⟨hx, hb, hml, hown, hts⟩ (va_cwS 3 hts gX3_isColumn_X3_in rfl rfl rfl (by decide +kernel) ⟨by dsimp only [pq_R]; omega, by dsimp only [pq_R]; omega⟩) pq_bl0 (fun _ _ _ => trivial) hK hP hD hS hA rfl (by decide) rfl (by decide) (by decide) rfl hl.1 rfl (Nat.le_of_ble_eq_true rfl) dX3_isColumn_8 ⟨by dsimp only [pq_R]; omega, by dsimp only [pq_R]; omega⟩ (fun v w1 H locs hq hP hD hS hz => ?_)
  obtain ⟨rfl, rfl⟩ := hq
  have hP : va_P D vwCl [(mo, .inr (3, [.int col, .ref z1, .ref z2, .ref z3, .ref z4, .ref z5, .ref z6, .ref z7, .ref z8, .ref z9, .int lf, .int B.2.2.2.2.1, .int B.2.2.2.2.2.1, .int B.2.2.2.2.2.2, .int laid, .int piled, .int prs, .int thr])), (z1, .inl (cI, 64, .inl hs)), (z2, .inl (cI, 64, .inl cs)), (z3, .inl (cI, 128, .inl fi)), (z4, .inl (cI, 128, .inl la)), (z5, .inl (cI, 128, .inl B.1)), (z6, .inl (cI, 128, .inl B.2.1)), (z7, .inl (cI, 128, .inl B.2.2.1)), (z8, .inl (cI, 128, .inl B.2.2.2.1)), (z9, .inl (cI, 64, .inl td))] H := hP
  have hD : va_D A [(mo, .inr (3, [.int col, .ref z1, .ref z2, .ref z3, .ref z4, .ref z5, .ref z6, .ref z7, .ref z8, .ref z9, .int lf, .int B.2.2.2.2.1, .int B.2.2.2.2.2.1, .int B.2.2.2.2.2.2, .int laid, .int piled, .int prs, .int thr])), (z1, .inl (cI, 64, .inl hs)), (z2, .inl (cI, 64, .inl cs)), (z3, .inl (cI, 128, .inl fi)), (z4, .inl (cI, 128, .inl la)), (z5, .inl (cI, 128, .inl B.1)), (z6, .inl (cI, 128, .inl B.2.1)), (z7, .inl (cI, 128, .inl B.2.2.1)), (z8, .inl (cI, 128, .inl B.2.2.2.1)), (z9, .inl (cI, 64, .inl td))] := hD
  by_cases b_2 : ¬ bRng x 0 (nI (N - 1))
  · rw [if_pos b_2]
    refine W.eq (g2 := F0 m 11 ls [.int 1]) rfl ?_
    exact pq_zret hQ hx hb hr hlocks hK hS hP hD dX3_isColumn_11 (by omega) (by omega) (by decide) (⟨by rw [if_pos (show ¬ bCol col x from fun h => h.elim (fun q => b_2 (Or.inl q)) (fun q => q (by rw [hN]; exact pq_ltN hN1 hN2 b_2)))], rfl⟩)
  · rw [if_neg b_2]
    refine W.eq (g2 := F0 m 11 ls [.int 0]) rfl ?_
    exact pq_zret hQ hx hb hr hlocks hK hS hP hD dX3_isColumn_11 (by omega) (by omega) (by decide) (⟨by rw [if_neg (show ¬ ¬ bCol col x from fun h => b_2 (fun q => q.elim (fun r => h (Or.inl r)) (fun r => r (by rw [hN] at h; exact pq_leN hN1 hN2 h))))], rfl⟩)

set_option maxHeartbeats 4000000 in
set_option maxRecDepth 100000 in
theorem mX3_isRange (l : Launch) (D : va_G) (cI : ClassId) (mo z1 z2 z3 z4 z5 z6 z7 z8 z9 : Nat) (col : Int32) (hs cs fi la : Nat → Int32) (B : BK) (td : Nat → Int32) (lf laid piled prs thr : Int32) (x y : Int32) (N : Nat) (hN : col = nI N) (hN1 : 1 ≤ N) (hN2 : N ≤ 64) : pq_M l yX3_isRange wsX3_isRange 2 43 0 0 D [(cI, .int)] pq_0 (mdW mo z1 z2 z3 z4 z5 z6 z7 z8 z9 cI col hs cs fi la B td lf laid piled prs thr) [.ref mo, .int x, .int y] (fun v w1 => v = some (.int (if ¬ (bCol col x ∨ bCol col y) then 1 else 0)) ∧ w1 = mdW mo z1 z2 z3 z4 z5 z6 z7 z8 z9 cI col hs cs fi la B td lf laid piled prs thr) := by
  refine pq_enter (cc := cX3_isRange) (maxL := 3) (ret := (some .boolean)) (by decide) rfl (Nat.le_of_ble_eq_true rfl) ?_
  intro p ev s m args below meth cd A ls Q H locs hx hb hr hml hts hown hlocks hnm hK hP hD hS hA hE hl hQ
  have hl : lv_has ls 3 [(0, .ref mo), (1, .int x), (2, .int y)] := hl
  have hP : va_P D vwCl [(mo, .inr (3, [.int col, .ref z1, .ref z2, .ref z3, .ref z4, .ref z5, .ref z6, .ref z7, .ref z8, .ref z9, .int lf, .int B.2.2.2.2.1, .int B.2.2.2.2.2.1, .int B.2.2.2.2.2.2, .int laid, .int piled, .int prs, .int thr])), (z1, .inl (cI, 64, .inl hs)), (z2, .inl (cI, 64, .inl cs)), (z3, .inl (cI, 128, .inl fi)), (z4, .inl (cI, 128, .inl la)), (z5, .inl (cI, 128, .inl B.1)), (z6, .inl (cI, 128, .inl B.2.1)), (z7, .inl (cI, 128, .inl B.2.2.1)), (z8, .inl (cI, 128, .inl B.2.2.2.1)), (z9, .inl (cI, 64, .inl td))] H := hP
  have hD : va_D A [(mo, .inr (3, [.int col, .ref z1, .ref z2, .ref z3, .ref z4, .ref z5, .ref z6, .ref z7, .ref z8, .ref z9, .int lf, .int B.2.2.2.2.1, .int B.2.2.2.2.2.1, .int B.2.2.2.2.2.2, .int laid, .int piled, .int prs, .int thr])), (z1, .inl (cI, 64, .inl hs)), (z2, .inl (cI, 64, .inl cs)), (z3, .inl (cI, 128, .inl fi)), (z4, .inl (cI, 128, .inl la)), (z5, .inl (cI, 128, .inl B.1)), (z6, .inl (cI, 128, .inl B.2.1)), (z7, .inl (cI, 128, .inl B.2.2.1)), (z8, .inl (cI, 128, .inl B.2.2.2.1)), (z9, .inl (cI, 64, .inl td))] := hD
  refine lv_aload_n hx hb dX3_isRange_0 rfl (lv_at hl 0 rfl) ?_
  refine lv_iload_n hx hb dX3_isRange_1 rfl (lv_at hl 1 rfl) ?_
  refine pq_callV (wr := []) (own := RX3) (nL := 3) (q0 := 0) (ci := 3) [0, 1, 2, 3, 4, 5, 6, 7, 8, 9] [] [.int x] (mX3_isColumn l D cI mo z1 z2 z3 z4 z5 z6 z7 z8 z9 col hs cs fi la B td lf laid piled prs thr x N hN hN1 hN2) ⟨hx, hb, hml, hown, hts⟩ (cwV 1 hts gX3_isRange_X3_isColumn rfl rfl rfl (by decide +kernel) ⟨by dsimp only [pq_R]; omega, by dsimp only [pq_R]; omega⟩) pq_bl0 (fun _ _ _ => trivial) hK hP hD hS hA rfl (by decide) rfl (by decide) (by decide) rfl rfl rfl rfl hl.1 rfl (Nat.le_of_ble_eq_true rfl) dX3_isRange_2 ⟨by dsimp only [pq_R]; omega, by dsimp only [pq_R]; omega⟩ (fun v w1 H locs hq hP hD hS hz => ?_)
  obtain ⟨rfl, rfl⟩ := hq
  have hP : va_P D vwCl [(mo, .inr (3, [.int col, .ref z1, .ref z2, .ref z3, .ref z4, .ref z5, .ref z6, .ref z7, .ref z8, .ref z9, .int lf, .int B.2.2.2.2.1, .int B.2.2.2.2.2.1, .int B.2.2.2.2.2.2, .int laid, .int piled, .int prs, .int thr])), (z1, .inl (cI, 64, .inl hs)), (z2, .inl (cI, 64, .inl cs)), (z3, .inl (cI, 128, .inl fi)), (z4, .inl (cI, 128, .inl la)), (z5, .inl (cI, 128, .inl B.1)), (z6, .inl (cI, 128, .inl B.2.1)), (z7, .inl (cI, 128, .inl B.2.2.1)), (z8, .inl (cI, 128, .inl B.2.2.2.1)), (z9, .inl (cI, 64, .inl td))] H := hP
  have hD : va_D A [(mo, .inr (3, [.int col, .ref z1, .ref z2, .ref z3, .ref z4, .ref z5, .ref z6, .ref z7, .ref z8, .ref z9, .int lf, .int B.2.2.2.2.1, .int B.2.2.2.2.2.1, .int B.2.2.2.2.2.2, .int laid, .int piled, .int prs, .int thr])), (z1, .inl (cI, 64, .inl hs)), (z2, .inl (cI, 64, .inl cs)), (z3, .inl (cI, 128, .inl fi)), (z4, .inl (cI, 128, .inl la)), (z5, .inl (cI, 128, .inl B.1)), (z6, .inl (cI, 128, .inl B.2.1)), (z7, .inl (cI, 128, .inl B.2.2.1)), (z8, .inl (cI, 128, .inl B.2.2.2.1)), (z9, .inl (cI, 64, .inl td))] := hD
  by_cases b_2 : ¬ bCol col x
  · rw [if_pos b_2]
    refine W.eq (g2 := F0 m 5 ls [.int 1]) rfl ?_
    refine lv_if_eq (tgt := 20) hx hb dX3_isRange_5 (by decide) (fun c9 => absurd c9 (by decide)) (fun _ => ?_)
    refine lv_aload_n hx hb dX3_isRange_8 rfl (lv_at hl 0 rfl) ?_
    refine lv_iload_n hx hb dX3_isRange_9 rfl (lv_at hl 2 rfl) ?_
    refine pq_callV (wr := []) (own := RX3) (nL := 3) (q0 := 0) (ci := 3) [0, 1, 2, 3, 4, 5, 6, 7, 8, 9] [] [.int y] (mX3_isColumn l D cI mo z1 z2 z3 z4 z5 z6 z7 z8 z9 col hs cs fi la B td lf laid piled prs thr y N hN hN1 hN2) ⟨hx, hb, hml, hown, hts⟩ (cwV 1 hts gX3_isRange_X3_isColumn rfl rfl rfl (by decide +kernel) ⟨by dsimp only [pq_R]; omega, by dsimp only [pq_R]; omega⟩) pq_bl0 (fun _ _ _ => trivial) hK hP hD hS hA rfl (by decide) rfl (by decide) (by decide) rfl rfl rfl rfl hl.1 rfl (Nat.le_of_ble_eq_true rfl) dX3_isRange_10 ⟨by dsimp only [pq_R]; omega, by dsimp only [pq_R]; omega⟩ (fun v w1 H locs hq hP hD hS hz => ?_)
    obtain ⟨rfl, rfl⟩ := hq
    have hP : va_P D vwCl [(mo, .inr (3, [.int col, .ref z1, .ref z2, .ref z3, .ref z4, .ref z5, .ref z6, .ref z7, .ref z8, .ref z9, .int lf, .int B.2.2.2.2.1, .int B.2.2.2.2.2.1, .int B.2.2.2.2.2.2, .int laid, .int piled, .int prs, .int thr])), (z1, .inl (cI, 64, .inl hs)), (z2, .inl (cI, 64, .inl cs)), (z3, .inl (cI, 128, .inl fi)), (z4, .inl (cI, 128, .inl la)), (z5, .inl (cI, 128, .inl B.1)), (z6, .inl (cI, 128, .inl B.2.1)), (z7, .inl (cI, 128, .inl B.2.2.1)), (z8, .inl (cI, 128, .inl B.2.2.2.1)), (z9, .inl (cI, 64, .inl td))] H := hP
    have hD : va_D A [(mo, .inr (3, [.int col, .ref z1, .ref z2, .ref z3, .ref z4, .ref z5, .ref z6, .ref z7, .ref z8, .ref z9, .int lf, .int B.2.2.2.2.1, .int B.2.2.2.2.2.1, .int B.2.2.2.2.2.2, .int laid, .int piled, .int prs, .int thr])), (z1, .inl (cI, 64, .inl hs)), (z2, .inl (cI, 64, .inl cs)), (z3, .inl (cI, 128, .inl fi)), (z4, .inl (cI, 128, .inl la)), (z5, .inl (cI, 128, .inl B.1)), (z6, .inl (cI, 128, .inl B.2.1)), (z7, .inl (cI, 128, .inl B.2.2.1)), (z8, .inl (cI, 128, .inl B.2.2.2.1)), (z9, .inl (cI, 64, .inl td))] := hD
    by_cases b_4 : ¬ bCol col y
    · rw [if_pos b_4]
      refine W.eq (g2 := F0 m 13 ls [.int 1]) rfl ?_
      refine lv_if_eq (tgt := 20) hx hb dX3_isRange_13 (by decide) (fun c9 => absurd c9 (by decide)) (fun _ => ?_)
      refine lv_iconst (v := 1) hx hb dX3_isRange_16 (by decide) ?_
      refine lv_goto (tgt := 21) hx hb dX3_isRange_17 (by decide) ?_
      exact pq_zret hQ hx hb hr hlocks hK hS hP hD dX3_isRange_21 (by omega) (by omega) (by decide) (⟨by rw [if_pos (show ¬ (bCol col x ∨ bCol col y) from fun h => h.elim b_2 b_4)], rfl⟩)
    · rw [if_neg b_4]
      refine W.eq (g2 := F0 m 13 ls [.int 0]) rfl ?_
      refine lv_if_eq (tgt := 20) hx hb dX3_isRange_13 (by decide) (fun _ => ?_) (fun c9 => absurd c9 (by decide))
      refine lv_iconst (v := 0) hx hb dX3_isRange_20 (by decide) ?_
      exact pq_zret hQ hx hb hr hlocks hK hS hP hD dX3_isRange_21 (by omega) (by omega) (by decide) (⟨by rw [if_neg (show ¬ ¬ (bCol col x ∨ bCol col y) from fun h => b_4 (fun q => h (Or.inr q)))], rfl⟩)
  · rw [if_neg b_2]
    refine W.eq (g2 := F0 m 5 ls [.int 0]) rfl ?_
    refine lv_if_eq (tgt := 20) hx hb dX3_isRange_5 (by decide) (fun _ => ?_) (fun c9 => absurd c9 (by decide))
    refine lv_iconst (v := 0) hx hb dX3_isRange_20 (by decide) ?_
    exact pq_zret hQ hx hb hr hlocks hK hS hP hD dX3_isRange_21 (by omega) (by omega) (by decide) (⟨by rw [if_neg (show ¬ ¬ (bCol col x ∨ bCol col y) from fun h => b_2 (fun q => h (Or.inl q)))], rfl⟩)

set_option maxHeartbeats 4000000 in
set_option maxRecDepth 100000 in
theorem mX3_press (l : Launch) (D : va_G) (cI : ClassId) (mo z1 z2 z3 z4 z5 z6 z7 z8 z9 : Nat) (col : Int32) (hs cs fi la : Nat → Int32) (B : BK) (td : Nat → Int32) (lf laid piled prs thr : Int32) (e : Nat) (c0 : Int32) (he : e < 128) : pq_M l yX3_press wsX3_press 0 0 0 0 D [(cI, .int)] pq_0 (mdW mo z1 z2 z3 z4 z5 z6 z7 z8 z9 cI col hs cs fi la B td lf laid piled prs thr) [.ref mo, .int (nI e), .int c0] (fun v w1 => v = none ∧ w1 = mdW mo z1 z2 z3 z4 z5 z6 z7 z8 z9 cI col hs cs fi la (bPress B e c0) td lf laid piled prs thr) := by
  refine pq_enter (cc := cX3_press) (maxL := 3) (ret := none) (by decide) rfl (Nat.le_of_ble_eq_true rfl) ?_
  intro p ev s m args below meth cd A ls Q H locs hx hb hr hml hts hown hlocks hnm hK hP hD hS hA hE hl hQ
  have hl : lv_has ls 3 [(0, .ref mo), (1, .int (nI e)), (2, .int c0)] := hl
  have hP : va_P D vwCl [(mo, .inr (3, [.int col, .ref z1, .ref z2, .ref z3, .ref z4, .ref z5, .ref z6, .ref z7, .ref z8, .ref z9, .int lf, .int B.2.2.2.2.1, .int B.2.2.2.2.2.1, .int B.2.2.2.2.2.2, .int laid, .int piled, .int prs, .int thr])), (z1, .inl (cI, 64, .inl hs)), (z2, .inl (cI, 64, .inl cs)), (z3, .inl (cI, 128, .inl fi)), (z4, .inl (cI, 128, .inl la)), (z5, .inl (cI, 128, .inl B.1)), (z6, .inl (cI, 128, .inl B.2.1)), (z7, .inl (cI, 128, .inl B.2.2.1)), (z8, .inl (cI, 128, .inl B.2.2.2.1)), (z9, .inl (cI, 64, .inl td))] H := hP
  have hD : va_D A [(mo, .inr (3, [.int col, .ref z1, .ref z2, .ref z3, .ref z4, .ref z5, .ref z6, .ref z7, .ref z8, .ref z9, .int lf, .int B.2.2.2.2.1, .int B.2.2.2.2.2.1, .int B.2.2.2.2.2.2, .int laid, .int piled, .int prs, .int thr])), (z1, .inl (cI, 64, .inl hs)), (z2, .inl (cI, 64, .inl cs)), (z3, .inl (cI, 128, .inl fi)), (z4, .inl (cI, 128, .inl la)), (z5, .inl (cI, 128, .inl B.1)), (z6, .inl (cI, 128, .inl B.2.1)), (z7, .inl (cI, 128, .inl B.2.2.1)), (z8, .inl (cI, 128, .inl B.2.2.2.1)), (z9, .inl (cI, 64, .inl td))] := hD
  have hin_X3 : ∀ w ∈ wsX30, w ∈ wsX3_press := by decide +kernel
  have hf_PressedPlainsModel_31 := hts (.fieldLink RX3 31 "PressedPlainsModel" "sum" "[I") (by decide +kernel)
  have hf_PressedPlainsModel_22 := hts (.fieldLink RX3 22 "PressedPlainsModel" "greatest" "[I") (by decide +kernel)
  have hf_PressedPlainsModel_28 := hts (.fieldLink RX3 28 "PressedPlainsModel" "many" "[I") (by decide +kernel)
  refine lv_aload_n hx hb dX3_press_0 rfl (lv_at hl 0 rfl) ?_
  refine va_get (D := D) (ci := 3) (v := .ref z8) (C := RX3) (T := TX3) (N := 18) hx hb hts hin_X3 hown hK hP 0 rfl rfl 8 (by decide) hf_PressedPlainsModel_31 (fun _ h9 => h9) rfl dX3_press_1 ?_
  refine lv_iload_n hx hb dX3_press_4 rfl (lv_at hl 1 rfl) ?_
  refine lv_dup2_11 hx hb dX3_press_5 rfl rfl ?_
  refine pq_iald hx hb hK hP 8 0 rfl rfl e (by omega) (by decide) dX3_press_6 ?_
  refine lv_aload_n hx hb dX3_press_7 rfl (lv_at hl 0 rfl) ?_
  refine va_get (D := D) (ci := 3) (v := .ref z5) (C := RX3) (T := TX3) (N := 18) hx hb hts hin_X3 hown hK hP 0 rfl rfl 5 (by decide) hf_PressedPlainsModel_22 (fun _ h9 => h9) rfl dX3_press_8 ?_
  refine lv_iload_n hx hb dX3_press_11 rfl (lv_at hl 1 rfl) ?_
  refine pq_iald hx hb hK hP 5 0 rfl rfl e (by omega) (by decide) dX3_press_12 ?_
  refine lv_iload_n hx hb dX3_press_13 rfl (lv_at hl 2 rfl) ?_
  refine lv_isub hx hb dX3_press_14 ?_
  refine lv_aload_n hx hb dX3_press_15 rfl (lv_at hl 0 rfl) ?_
  refine va_get (D := D) (ci := 3) (v := .ref z7) (C := RX3) (T := TX3) (N := 18) hx hb hts hin_X3 hown hK hP 0 rfl rfl 7 (by decide) hf_PressedPlainsModel_28 (fun _ h9 => h9) rfl dX3_press_16 ?_
  refine lv_iload_n hx hb dX3_press_19 rfl (lv_at hl 1 rfl) ?_
  refine pq_iald hx hb hK hP 7 0 rfl rfl e (by omega) (by decide) dX3_press_20 ?_
  refine lv_imul hx hb dX3_press_21 ?_
  refine lv_isub hx hb dX3_press_22 ?_
  refine pq_iast hx hb hK hP hD hS 8 0 rfl rfl e (by omega) (by decide) dX3_press_23 (fun H locs hP hD hS => ?_)
  have hP : va_P D vwCl [(mo, .inr (3, [.int col, .ref z1, .ref z2, .ref z3, .ref z4, .ref z5, .ref z6, .ref z7, .ref z8, .ref z9, .int lf, .int B.2.2.2.2.1, .int B.2.2.2.2.2.1, .int B.2.2.2.2.2.2, .int laid, .int piled, .int prs, .int thr])), (z1, .inl (cI, 64, .inl hs)), (z2, .inl (cI, 64, .inl cs)), (z3, .inl (cI, 128, .inl fi)), (z4, .inl (cI, 128, .inl la)), (z5, .inl (cI, 128, .inl B.1)), (z6, .inl (cI, 128, .inl B.2.1)), (z7, .inl (cI, 128, .inl B.2.2.1)), (z8, .inl (cI, 128, .inl (upd B.2.2.2.1 e ((B.2.2.2.1 e) - (((B.1 e) - c0) * (B.2.2.1 e)))))), (z9, .inl (cI, 64, .inl td))] H := hP
  have hD : va_D A [(mo, .inr (3, [.int col, .ref z1, .ref z2, .ref z3, .ref z4, .ref z5, .ref z6, .ref z7, .ref z8, .ref z9, .int lf, .int B.2.2.2.2.1, .int B.2.2.2.2.2.1, .int B.2.2.2.2.2.2, .int laid, .int piled, .int prs, .int thr])), (z1, .inl (cI, 64, .inl hs)), (z2, .inl (cI, 64, .inl cs)), (z3, .inl (cI, 128, .inl fi)), (z4, .inl (cI, 128, .inl la)), (z5, .inl (cI, 128, .inl B.1)), (z6, .inl (cI, 128, .inl B.2.1)), (z7, .inl (cI, 128, .inl B.2.2.1)), (z8, .inl (cI, 128, .inl (upd B.2.2.2.1 e ((B.2.2.2.1 e) - (((B.1 e) - c0) * (B.2.2.1 e)))))), (z9, .inl (cI, 64, .inl td))] := hD
  refine lv_aload_n hx hb dX3_press_24 rfl (lv_at hl 0 rfl) ?_
  refine va_get (D := D) (ci := 3) (v := .ref z5) (C := RX3) (T := TX3) (N := 18) hx hb hts hin_X3 hown hK hP 0 rfl rfl 5 (by decide) hf_PressedPlainsModel_22 (fun _ h9 => h9) rfl dX3_press_25 ?_
  refine lv_iload_n hx hb dX3_press_28 rfl (lv_at hl 1 rfl) ?_
  refine lv_iload_n hx hb dX3_press_29 rfl (lv_at hl 2 rfl) ?_
  refine pq_iast hx hb hK hP hD hS 5 0 rfl rfl e (by omega) (by decide) dX3_press_30 (fun H locs hP hD hS => ?_)
  have hP : va_P D vwCl [(mo, .inr (3, [.int col, .ref z1, .ref z2, .ref z3, .ref z4, .ref z5, .ref z6, .ref z7, .ref z8, .ref z9, .int lf, .int B.2.2.2.2.1, .int B.2.2.2.2.2.1, .int B.2.2.2.2.2.2, .int laid, .int piled, .int prs, .int thr])), (z1, .inl (cI, 64, .inl hs)), (z2, .inl (cI, 64, .inl cs)), (z3, .inl (cI, 128, .inl fi)), (z4, .inl (cI, 128, .inl la)), (z5, .inl (cI, 128, .inl (upd B.1 e c0))), (z6, .inl (cI, 128, .inl B.2.1)), (z7, .inl (cI, 128, .inl B.2.2.1)), (z8, .inl (cI, 128, .inl (upd B.2.2.2.1 e ((B.2.2.2.1 e) - (((B.1 e) - c0) * (B.2.2.1 e)))))), (z9, .inl (cI, 64, .inl td))] H := hP
  have hD : va_D A [(mo, .inr (3, [.int col, .ref z1, .ref z2, .ref z3, .ref z4, .ref z5, .ref z6, .ref z7, .ref z8, .ref z9, .int lf, .int B.2.2.2.2.1, .int B.2.2.2.2.2.1, .int B.2.2.2.2.2.2, .int laid, .int piled, .int prs, .int thr])), (z1, .inl (cI, 64, .inl hs)), (z2, .inl (cI, 64, .inl cs)), (z3, .inl (cI, 128, .inl fi)), (z4, .inl (cI, 128, .inl la)), (z5, .inl (cI, 128, .inl (upd B.1 e c0))), (z6, .inl (cI, 128, .inl B.2.1)), (z7, .inl (cI, 128, .inl B.2.2.1)), (z8, .inl (cI, 128, .inl (upd B.2.2.2.1 e ((B.2.2.2.1 e) - (((B.1 e) - c0) * (B.2.2.1 e)))))), (z9, .inl (cI, 64, .inl td))] := hD
  exact pq_vret hQ hx hb hr hlocks hK hS hP hD dX3_press_31 (by omega) (by omega) (⟨rfl, rfl⟩)

set_option maxHeartbeats 4000000 in
set_option maxRecDepth 100000 in
theorem mX3_catchUp (l : Launch) (D : va_G) (cI : ClassId) (mo z1 z2 z3 z4 z5 z6 z7 z8 z9 : Nat) (col : Int32) (hs cs fi la : Nat → Int32) (B : BK) (td : Nat → Int32) (lf laid piled prs thr : Int32) (e : Nat) (he : e < 64) : pq_M l yX3_catchUp wsX3_catchUp 1 22 0 0 D [(cI, .int)] pq_0 (mdW mo z1 z2 z3 z4 z5 z6 z7 z8 z9 cI col hs cs fi la B td lf laid piled prs thr) [.ref mo, .int (nI e)] (fun v w1 => v = none ∧ w1 = mdW mo z1 z2 z3 z4 z5 z6 z7 z8 z9 cI col hs cs fi la (mCatch2 B e) td lf laid piled prs thr) := by
  refine pq_enter (cc := cX3_catchUp) (maxL := 3) (ret := none) (by decide) rfl (Nat.le_of_ble_eq_true rfl) ?_
  intro p ev s m args below meth cd A ls Q H locs hx hb hr hml hts hown hlocks hnm hK hP hD hS hA hE hl hQ
  have hl : lv_has ls 3 [(0, .ref mo), (1, .int (nI e))] := hl
  have hP : va_P D vwCl [(mo, .inr (3, [.int col, .ref z1, .ref z2, .ref z3, .ref z4, .ref z5, .ref z6, .ref z7, .ref z8, .ref z9, .int lf, .int B.2.2.2.2.1, .int B.2.2.2.2.2.1, .int B.2.2.2.2.2.2, .int laid, .int piled, .int prs, .int thr])), (z1, .inl (cI, 64, .inl hs)), (z2, .inl (cI, 64, .inl cs)), (z3, .inl (cI, 128, .inl fi)), (z4, .inl (cI, 128, .inl la)), (z5, .inl (cI, 128, .inl B.1)), (z6, .inl (cI, 128, .inl B.2.1)), (z7, .inl (cI, 128, .inl B.2.2.1)), (z8, .inl (cI, 128, .inl B.2.2.2.1)), (z9, .inl (cI, 64, .inl td))] H := hP
  have hD : va_D A [(mo, .inr (3, [.int col, .ref z1, .ref z2, .ref z3, .ref z4, .ref z5, .ref z6, .ref z7, .ref z8, .ref z9, .int lf, .int B.2.2.2.2.1, .int B.2.2.2.2.2.1, .int B.2.2.2.2.2.2, .int laid, .int piled, .int prs, .int thr])), (z1, .inl (cI, 64, .inl hs)), (z2, .inl (cI, 64, .inl cs)), (z3, .inl (cI, 128, .inl fi)), (z4, .inl (cI, 128, .inl la)), (z5, .inl (cI, 128, .inl B.1)), (z6, .inl (cI, 128, .inl B.2.1)), (z7, .inl (cI, 128, .inl B.2.2.1)), (z8, .inl (cI, 128, .inl B.2.2.2.1)), (z9, .inl (cI, 64, .inl td))] := hD
  have hin_X3 : ∀ w ∈ wsX30, w ∈ wsX3_catchUp := by decide +kernel
  have hf_PressedPlainsModel_22 := hts (.fieldLink RX3 22 "PressedPlainsModel" "greatest" "[I") (by decide +kernel)
  refine lv_iconst (v := 2) hx hb dX3_catchUp_0 (by decide) ?_
  refine lv_iload_n hx hb dX3_catchUp_1 rfl (lv_at hl 1 rfl) ?_
  refine lv_imul hx hb dX3_catchUp_2 ?_
  refine pq_top (nI (2 * e)) (pk_mul 2 _) ?_
  refine lv_istore_n (lv' := [(2, .int (nI (2 * e))), (0, .ref mo), (1, .int (nI e))]) hx hb dX3_catchUp_3 rfl hl (by decide) rfl (fun ls hl => ?_)
  refine lv_iload_n hx hb dX3_catchUp_4 rfl (lv_at hl 0 rfl) ?_
  refine lv_iconst (v := 2) hx hb dX3_catchUp_5 (by decide) ?_
  refine lv_iload_n hx hb dX3_catchUp_6 rfl (lv_at hl 2 rfl) ?_
  refine lv_imul hx hb dX3_catchUp_7 ?_
  refine pq_top (nI (2 * e)) (pk_mul 2 _) ?_
  refine lv_iconst (v := 1) hx hb dX3_catchUp_8 (by decide) ?_
  refine lv_iadd hx hb dX3_catchUp_9 ?_
  refine pq_top (nI ((2 * e) + 1)) (nI_1 _) ?_
  refine lv_icmp_gt (tgt := 45) hx hb dX3_catchUp_10 (by decide) (fun c9 => absurd c9 (nI_nlt (a := ((2 * e) + 1)) (b := (2 * e)) (by omega) (by omega))) (fun _ => ?_)
  refine lv_aload_n hx hb dX3_catchUp_13 rfl (lv_at hl 1 rfl) ?_
  refine va_get (D := D) (ci := 3) (v := .ref z5) (C := RX3) (T := TX3) (N := 18) hx hb hts hin_X3 hown hK hP 0 rfl rfl 5 (by decide) hf_PressedPlainsModel_22 (fun _ h9 => h9) rfl dX3_catchUp_14 ?_
  refine lv_iload_n hx hb dX3_catchUp_17 rfl (lv_at hl 0 rfl) ?_
  refine pq_iald hx hb hK hP 5 0 rfl rfl (2 * e) (by omega) (by decide) dX3_catchUp_18 ?_
  refine lv_aload_n hx hb dX3_catchUp_19 rfl (lv_at hl 1 rfl) ?_
  refine va_get (D := D) (ci := 3) (v := .ref z5) (C := RX3) (T := TX3) (N := 18) hx hb hts hin_X3 hown hK hP 0 rfl rfl 5 (by decide) hf_PressedPlainsModel_22 (fun _ h9 => h9) rfl dX3_catchUp_20 ?_
  refine lv_iload_n hx hb dX3_catchUp_23 rfl (lv_at hl 2 rfl) ?_
  refine pq_iald hx hb hK hP 5 0 rfl rfl e (by omega) (by decide) dX3_catchUp_24 ?_
  refine lv_icmp_le (tgt := 39) hx hb dX3_catchUp_25 (by decide) (fun c_1 => ?_) (fun c_1 => ?_)
  · refine lv_iinc (v := nI ((2 * e) + 1)) (lv' := [(2, .int (nI ((2 * e) + 1))), (0, .ref mo), (1, .int (nI e))]) hx hb dX3_catchUp_39 hl (k := 0) rfl (nI_add _ 1) (by decide) rfl (fun ls hl => ?_)
    refine lv_goto (tgt := 4) hx hb dX3_catchUp_42 (by decide) ?_
    refine lv_iload_n hx hb dX3_catchUp_4 rfl (lv_at hl 0 rfl) ?_
    refine lv_iconst (v := 2) hx hb dX3_catchUp_5 (by decide) ?_
    refine lv_iload_n hx hb dX3_catchUp_6 rfl (lv_at hl 2 rfl) ?_
    refine lv_imul hx hb dX3_catchUp_7 ?_
    refine pq_top (nI (2 * e)) (pk_mul 2 _) ?_
    refine lv_iconst (v := 1) hx hb dX3_catchUp_8 (by decide) ?_
    refine lv_iadd hx hb dX3_catchUp_9 ?_
    refine pq_top (nI ((2 * e) + 1)) (nI_1 _) ?_
    refine lv_icmp_gt (tgt := 45) hx hb dX3_catchUp_10 (by decide) (fun c9 => absurd c9 (nI_nlt (a := ((2 * e) + 1)) (b := ((2 * e) + 1)) (by omega) (by omega))) (fun _ => ?_)
    refine lv_aload_n hx hb dX3_catchUp_13 rfl (lv_at hl 1 rfl) ?_
    refine va_get (D := D) (ci := 3) (v := .ref z5) (C := RX3) (T := TX3) (N := 18) hx hb hts hin_X3 hown hK hP 0 rfl rfl 5 (by decide) hf_PressedPlainsModel_22 (fun _ h9 => h9) rfl dX3_catchUp_14 ?_
    refine lv_iload_n hx hb dX3_catchUp_17 rfl (lv_at hl 0 rfl) ?_
    refine pq_iald hx hb hK hP 5 0 rfl rfl ((2 * e) + 1) (by omega) (by decide) dX3_catchUp_18 ?_
    refine lv_aload_n hx hb dX3_catchUp_19 rfl (lv_at hl 1 rfl) ?_
    refine va_get (D := D) (ci := 3) (v := .ref z5) (C := RX3) (T := TX3) (N := 18) hx hb hts hin_X3 hown hK hP 0 rfl rfl 5 (by decide) hf_PressedPlainsModel_22 (fun _ h9 => h9) rfl dX3_catchUp_20 ?_
    refine lv_iload_n hx hb dX3_catchUp_23 rfl (lv_at hl 2 rfl) ?_
    refine pq_iald hx hb hK hP 5 0 rfl rfl e (by omega) (by decide) dX3_catchUp_24 ?_
    refine lv_icmp_le (tgt := 39) hx hb dX3_catchUp_25 (by decide) (fun c_2 => ?_) (fun c_2 => ?_)
    · refine lv_iinc (v := nI (((2 * e) + 1) + 1)) (lv' := [(2, .int (nI (((2 * e) + 1) + 1))), (0, .ref mo), (1, .int (nI e))]) hx hb dX3_catchUp_39 hl (k := 0) rfl (nI_add _ 1) (by decide) rfl (fun ls hl => ?_)
      refine lv_goto (tgt := 4) hx hb dX3_catchUp_42 (by decide) ?_
      refine lv_iload_n hx hb dX3_catchUp_4 rfl (lv_at hl 0 rfl) ?_
      refine lv_iconst (v := 2) hx hb dX3_catchUp_5 (by decide) ?_
      refine lv_iload_n hx hb dX3_catchUp_6 rfl (lv_at hl 2 rfl) ?_
      refine lv_imul hx hb dX3_catchUp_7 ?_
      refine pq_top (nI (2 * e)) (pk_mul 2 _) ?_
      refine lv_iconst (v := 1) hx hb dX3_catchUp_8 (by decide) ?_
      refine lv_iadd hx hb dX3_catchUp_9 ?_
      refine pq_top (nI ((2 * e) + 1)) (nI_1 _) ?_
      refine lv_icmp_gt (tgt := 45) hx hb dX3_catchUp_10 (by decide) (fun _ => ?_) (fun c9 => absurd (nI_lt (a := ((2 * e) + 1)) (b := (((2 * e) + 1) + 1)) (by omega) (by omega)) c9)
      exact pq_vret hQ hx hb hr hlocks hK hS hP hD dX3_catchUp_45 (by omega) (by omega) (⟨rfl, by unfold mCatch2; rw [show mCatch B (2 * e) e = B from if_neg (fun h => h c_1), show mCatch B (2 * e + 1) e = B from if_neg (fun h => h c_2)] <;> rfl⟩)
    · refine lv_aload_n hx hb dX3_catchUp_28 rfl (lv_at hl 1 rfl) ?_
      refine lv_iload_n hx hb dX3_catchUp_29 rfl (lv_at hl 0 rfl) ?_
      refine lv_aload_n hx hb dX3_catchUp_30 rfl (lv_at hl 1 rfl) ?_
      refine va_get (D := D) (ci := 3) (v := .ref z5) (C := RX3) (T := TX3) (N := 18) hx hb hts hin_X3 hown hK hP 0 rfl rfl 5 (by decide) hf_PressedPlainsModel_22 (fun _ h9 => h9) rfl dX3_catchUp_31 ?_
      refine lv_iload_n hx hb dX3_catchUp_34 rfl (lv_at hl 2 rfl) ?_
      refine pq_iald hx hb hK hP 5 0 rfl rfl e (by omega) (by decide) dX3_catchUp_35 ?_
      refine pq_callV (wr := []) (own := RX3) (nL := 3) (q0 := 0) (ci := 3) [0, 1, 2, 3, 4, 5, 6, 7, 8, 9] [] [.int (nI ((2 * e) + 1)), .int (B.1 e)] (mX3_press l D cI mo z1 z2 z3 z4 z5 z6 z7 z8 z9 col hs cs fi la B td lf laid piled prs thr ((2 * e) + 1) (B.1 e) (by omega)) ⟨hx, hb, hml, hown, hts⟩ (cwV 2 hts gX3_catchUp_X3_press rfl rfl rfl (by decide +kernel) ⟨by dsimp only [pq_R]; omega, by dsimp only [pq_R]; omega⟩) pq_bl0 (fun _ _ _ => trivial) hK hP hD hS hA rfl (by decide) rfl (by decide) (by decide) rfl rfl rfl rfl hl.1 rfl (Nat.le_of_ble_eq_true rfl) dX3_catchUp_36 ⟨by dsimp only [pq_R]; omega, by dsimp only [pq_R]; omega⟩ (fun v w1 H locs hq hP hD hS hz => ?_)
      obtain ⟨rfl, rfl⟩ := hq
      obtain ⟨B_3, hB_3⟩ : ∃ zz, zz = bPress B ((2 * e) + 1) (B.1 e) := ⟨_, rfl⟩
      rw [← hB_3] at hP hD
      have hP : va_P D vwCl [(mo, .inr (3, [.int col, .ref z1, .ref z2, .ref z3, .ref z4, .ref z5, .ref z6, .ref z7, .ref z8, .ref z9, .int lf, .int B_3.2.2.2.2.1, .int B_3.2.2.2.2.2.1, .int B_3.2.2.2.2.2.2, .int laid, .int piled, .int prs, .int thr])), (z1, .inl (cI, 64, .inl hs)), (z2, .inl (cI, 64, .inl cs)), (z3, .inl (cI, 128, .inl fi)), (z4, .inl (cI, 128, .inl la)), (z5, .inl (cI, 128, .inl B_3.1)), (z6, .inl (cI, 128, .inl B_3.2.1)), (z7, .inl (cI, 128, .inl B_3.2.2.1)), (z8, .inl (cI, 128, .inl B_3.2.2.2.1)), (z9, .inl (cI, 64, .inl td))] H := hP
      have hD : va_D A [(mo, .inr (3, [.int col, .ref z1, .ref z2, .ref z3, .ref z4, .ref z5, .ref z6, .ref z7, .ref z8, .ref z9, .int lf, .int B_3.2.2.2.2.1, .int B_3.2.2.2.2.2.1, .int B_3.2.2.2.2.2.2, .int laid, .int piled, .int prs, .int thr])), (z1, .inl (cI, 64, .inl hs)), (z2, .inl (cI, 64, .inl cs)), (z3, .inl (cI, 128, .inl fi)), (z4, .inl (cI, 128, .inl la)), (z5, .inl (cI, 128, .inl B_3.1)), (z6, .inl (cI, 128, .inl B_3.2.1)), (z7, .inl (cI, 128, .inl B_3.2.2.1)), (z8, .inl (cI, 128, .inl B_3.2.2.2.1)), (z9, .inl (cI, 64, .inl td))] := hD
      refine W.eq (g2 := F0 m 39 ls []) rfl ?_
      refine lv_iinc (v := nI (((2 * e) + 1) + 1)) (lv' := [(2, .int (nI (((2 * e) + 1) + 1))), (0, .ref mo), (1, .int (nI e))]) hx hb dX3_catchUp_39 hl (k := 0) rfl (nI_add _ 1) (by decide) rfl (fun ls hl => ?_)
      refine lv_goto (tgt := 4) hx hb dX3_catchUp_42 (by decide) ?_
      refine lv_iload_n hx hb dX3_catchUp_4 rfl (lv_at hl 0 rfl) ?_
      refine lv_iconst (v := 2) hx hb dX3_catchUp_5 (by decide) ?_
      refine lv_iload_n hx hb dX3_catchUp_6 rfl (lv_at hl 2 rfl) ?_
      refine lv_imul hx hb dX3_catchUp_7 ?_
      refine pq_top (nI (2 * e)) (pk_mul 2 _) ?_
      refine lv_iconst (v := 1) hx hb dX3_catchUp_8 (by decide) ?_
      refine lv_iadd hx hb dX3_catchUp_9 ?_
      refine pq_top (nI ((2 * e) + 1)) (nI_1 _) ?_
      refine lv_icmp_gt (tgt := 45) hx hb dX3_catchUp_10 (by decide) (fun _ => ?_) (fun c9 => absurd (nI_lt (a := ((2 * e) + 1)) (b := (((2 * e) + 1) + 1)) (by omega) (by omega)) c9)
      exact pq_vret hQ hx hb hr hlocks hK hS hP hD dX3_catchUp_45 (by omega) (by omega) (⟨rfl, by subst hB_3; unfold mCatch2; rw [show mCatch B (2 * e) e = B from if_neg (fun h => h c_1), show mCatch B (2 * e + 1) e = (bPress B (2 * e + 1) (B.1 e)) from if_pos c_2] <;> rfl⟩)
  · refine lv_aload_n hx hb dX3_catchUp_28 rfl (lv_at hl 1 rfl) ?_
    refine lv_iload_n hx hb dX3_catchUp_29 rfl (lv_at hl 0 rfl) ?_
    refine lv_aload_n hx hb dX3_catchUp_30 rfl (lv_at hl 1 rfl) ?_
    refine va_get (D := D) (ci := 3) (v := .ref z5) (C := RX3) (T := TX3) (N := 18) hx hb hts hin_X3 hown hK hP 0 rfl rfl 5 (by decide) hf_PressedPlainsModel_22 (fun _ h9 => h9) rfl dX3_catchUp_31 ?_
    refine lv_iload_n hx hb dX3_catchUp_34 rfl (lv_at hl 2 rfl) ?_
    refine pq_iald hx hb hK hP 5 0 rfl rfl e (by omega) (by decide) dX3_catchUp_35 ?_
    refine pq_callV (wr := []) (own := RX3) (nL := 3) (q0 := 0) (ci := 3) [0, 1, 2, 3, 4, 5, 6, 7, 8, 9] [] [.int (nI (2 * e)), .int (B.1 e)] (mX3_press l D cI mo z1 z2 z3 z4 z5 z6 z7 z8 z9 col hs cs fi la B td lf laid piled prs thr (2 * e) (B.1 e) (by omega)) ⟨hx, hb, hml, hown, hts⟩ (cwV 2 hts gX3_catchUp_X3_press rfl rfl rfl (by decide +kernel) ⟨by dsimp only [pq_R]; omega, by dsimp only [pq_R]; omega⟩) pq_bl0 (fun _ _ _ => trivial) hK hP hD hS hA rfl (by decide) rfl (by decide) (by decide) rfl rfl rfl rfl hl.1 rfl (Nat.le_of_ble_eq_true rfl) dX3_catchUp_36 ⟨by dsimp only [pq_R]; omega, by dsimp only [pq_R]; omega⟩ (fun v w1 H locs hq hP hD hS hz => ?_)
    obtain ⟨rfl, rfl⟩ := hq
    obtain ⟨B_4, hB_4⟩ : ∃ zz, zz = bPress B (2 * e) (B.1 e) := ⟨_, rfl⟩
    rw [← hB_4] at hP hD
    have hP : va_P D vwCl [(mo, .inr (3, [.int col, .ref z1, .ref z2, .ref z3, .ref z4, .ref z5, .ref z6, .ref z7, .ref z8, .ref z9, .int lf, .int B_4.2.2.2.2.1, .int B_4.2.2.2.2.2.1, .int B_4.2.2.2.2.2.2, .int laid, .int piled, .int prs, .int thr])), (z1, .inl (cI, 64, .inl hs)), (z2, .inl (cI, 64, .inl cs)), (z3, .inl (cI, 128, .inl fi)), (z4, .inl (cI, 128, .inl la)), (z5, .inl (cI, 128, .inl B_4.1)), (z6, .inl (cI, 128, .inl B_4.2.1)), (z7, .inl (cI, 128, .inl B_4.2.2.1)), (z8, .inl (cI, 128, .inl B_4.2.2.2.1)), (z9, .inl (cI, 64, .inl td))] H := hP
    have hD : va_D A [(mo, .inr (3, [.int col, .ref z1, .ref z2, .ref z3, .ref z4, .ref z5, .ref z6, .ref z7, .ref z8, .ref z9, .int lf, .int B_4.2.2.2.2.1, .int B_4.2.2.2.2.2.1, .int B_4.2.2.2.2.2.2, .int laid, .int piled, .int prs, .int thr])), (z1, .inl (cI, 64, .inl hs)), (z2, .inl (cI, 64, .inl cs)), (z3, .inl (cI, 128, .inl fi)), (z4, .inl (cI, 128, .inl la)), (z5, .inl (cI, 128, .inl B_4.1)), (z6, .inl (cI, 128, .inl B_4.2.1)), (z7, .inl (cI, 128, .inl B_4.2.2.1)), (z8, .inl (cI, 128, .inl B_4.2.2.2.1)), (z9, .inl (cI, 64, .inl td))] := hD
    refine W.eq (g2 := F0 m 39 ls []) rfl ?_
    refine lv_iinc (v := nI ((2 * e) + 1)) (lv' := [(2, .int (nI ((2 * e) + 1))), (0, .ref mo), (1, .int (nI e))]) hx hb dX3_catchUp_39 hl (k := 0) rfl (nI_add _ 1) (by decide) rfl (fun ls hl => ?_)
    refine lv_goto (tgt := 4) hx hb dX3_catchUp_42 (by decide) ?_
    refine lv_iload_n hx hb dX3_catchUp_4 rfl (lv_at hl 0 rfl) ?_
    refine lv_iconst (v := 2) hx hb dX3_catchUp_5 (by decide) ?_
    refine lv_iload_n hx hb dX3_catchUp_6 rfl (lv_at hl 2 rfl) ?_
    refine lv_imul hx hb dX3_catchUp_7 ?_
    refine pq_top (nI (2 * e)) (pk_mul 2 _) ?_
    refine lv_iconst (v := 1) hx hb dX3_catchUp_8 (by decide) ?_
    refine lv_iadd hx hb dX3_catchUp_9 ?_
    refine pq_top (nI ((2 * e) + 1)) (nI_1 _) ?_
    refine lv_icmp_gt (tgt := 45) hx hb dX3_catchUp_10 (by decide) (fun c9 => absurd c9 (nI_nlt (a := ((2 * e) + 1)) (b := ((2 * e) + 1)) (by omega) (by omega))) (fun _ => ?_)
    refine lv_aload_n hx hb dX3_catchUp_13 rfl (lv_at hl 1 rfl) ?_
    refine va_get (D := D) (ci := 3) (v := .ref z5) (C := RX3) (T := TX3) (N := 18) hx hb hts hin_X3 hown hK hP 0 rfl rfl 5 (by decide) hf_PressedPlainsModel_22 (fun _ h9 => h9) rfl dX3_catchUp_14 ?_
    refine lv_iload_n hx hb dX3_catchUp_17 rfl (lv_at hl 0 rfl) ?_
    refine pq_iald hx hb hK hP 5 0 rfl rfl ((2 * e) + 1) (by omega) (by decide) dX3_catchUp_18 ?_
    refine lv_aload_n hx hb dX3_catchUp_19 rfl (lv_at hl 1 rfl) ?_
    refine va_get (D := D) (ci := 3) (v := .ref z5) (C := RX3) (T := TX3) (N := 18) hx hb hts hin_X3 hown hK hP 0 rfl rfl 5 (by decide) hf_PressedPlainsModel_22 (fun _ h9 => h9) rfl dX3_catchUp_20 ?_
    refine lv_iload_n hx hb dX3_catchUp_23 rfl (lv_at hl 2 rfl) ?_
    refine pq_iald hx hb hK hP 5 0 rfl rfl e (by omega) (by decide) dX3_catchUp_24 ?_
    refine lv_icmp_le (tgt := 39) hx hb dX3_catchUp_25 (by decide) (fun c_5 => ?_) (fun c_5 => ?_)
    · refine lv_iinc (v := nI (((2 * e) + 1) + 1)) (lv' := [(2, .int (nI (((2 * e) + 1) + 1))), (0, .ref mo), (1, .int (nI e))]) hx hb dX3_catchUp_39 hl (k := 0) rfl (nI_add _ 1) (by decide) rfl (fun ls hl => ?_)
      refine lv_goto (tgt := 4) hx hb dX3_catchUp_42 (by decide) ?_
      refine lv_iload_n hx hb dX3_catchUp_4 rfl (lv_at hl 0 rfl) ?_
      refine lv_iconst (v := 2) hx hb dX3_catchUp_5 (by decide) ?_
      refine lv_iload_n hx hb dX3_catchUp_6 rfl (lv_at hl 2 rfl) ?_
      refine lv_imul hx hb dX3_catchUp_7 ?_
      refine pq_top (nI (2 * e)) (pk_mul 2 _) ?_
      refine lv_iconst (v := 1) hx hb dX3_catchUp_8 (by decide) ?_
      refine lv_iadd hx hb dX3_catchUp_9 ?_
      refine pq_top (nI ((2 * e) + 1)) (nI_1 _) ?_
      refine lv_icmp_gt (tgt := 45) hx hb dX3_catchUp_10 (by decide) (fun _ => ?_) (fun c9 => absurd (nI_lt (a := ((2 * e) + 1)) (b := (((2 * e) + 1) + 1)) (by omega) (by omega)) c9)
      exact pq_vret hQ hx hb hr hlocks hK hS hP hD dX3_catchUp_45 (by omega) (by omega) (⟨rfl, by subst hB_4; unfold mCatch2; rw [show mCatch B (2 * e) e = (bPress B (2 * e) (B.1 e)) from if_pos c_1, show mCatch (bPress B (2 * e) (B.1 e)) (2 * e + 1) e = (bPress B (2 * e) (B.1 e)) from if_neg (fun h => h c_5)] <;> rfl⟩)
    · refine lv_aload_n hx hb dX3_catchUp_28 rfl (lv_at hl 1 rfl) ?_
      refine lv_iload_n hx hb dX3_catchUp_29 rfl (lv_at hl 0 rfl) ?_
      refine lv_aload_n hx hb dX3_catchUp_30 rfl (lv_at hl 1 rfl) ?_
      refine va_get (D := D) (ci := 3) (v := .ref z5) (C := RX3) (T := TX3) (N := 18) hx hb hts hin_X3 hown hK hP 0 rfl rfl 5 (by decide) hf_PressedPlainsModel_22 (fun _ h9 => h9) rfl dX3_catchUp_31 ?_
      refine lv_iload_n hx hb dX3_catchUp_34 rfl (lv_at hl 2 rfl) ?_
      refine pq_iald hx hb hK hP 5 0 rfl rfl e (by omega) (by decide) dX3_catchUp_35 ?_
      refine pq_callV (wr := []) (own := RX3) (nL := 3) (q0 := 0) (ci := 3) [0, 1, 2, 3, 4, 5, 6, 7, 8, 9] [] [.int (nI ((2 * e) + 1)), .int (B_4.1 e)] (mX3_press l D cI mo z1 z2 z3 z4 z5 z6 z7 z8 z9 col hs cs fi la B_4 td lf laid piled prs thr ((2 * e) + 1) (B_4.1 e) (by omega)) ⟨hx, hb, hml, hown, hts⟩ (cwV 2 hts gX3_catchUp_X3_press rfl rfl rfl (by decide +kernel) ⟨by dsimp only [pq_R]; omega, by dsimp only [pq_R]; omega⟩) pq_bl0 (fun _ _ _ => trivial) hK hP hD hS hA rfl (by decide) rfl (by decide) (by decide) rfl rfl rfl rfl hl.1 rfl (Nat.le_of_ble_eq_true rfl) dX3_catchUp_36 ⟨by dsimp only [pq_R]; omega, by dsimp only [pq_R]; omega⟩ (fun v w1 H locs hq hP hD hS hz => ?_)
      obtain ⟨rfl, rfl⟩ := hq
      obtain ⟨B_6, hB_6⟩ : ∃ zz, zz = bPress B_4 ((2 * e) + 1) (B_4.1 e) := ⟨_, rfl⟩
      rw [← hB_6] at hP hD
      have hP : va_P D vwCl [(mo, .inr (3, [.int col, .ref z1, .ref z2, .ref z3, .ref z4, .ref z5, .ref z6, .ref z7, .ref z8, .ref z9, .int lf, .int B_6.2.2.2.2.1, .int B_6.2.2.2.2.2.1, .int B_6.2.2.2.2.2.2, .int laid, .int piled, .int prs, .int thr])), (z1, .inl (cI, 64, .inl hs)), (z2, .inl (cI, 64, .inl cs)), (z3, .inl (cI, 128, .inl fi)), (z4, .inl (cI, 128, .inl la)), (z5, .inl (cI, 128, .inl B_6.1)), (z6, .inl (cI, 128, .inl B_6.2.1)), (z7, .inl (cI, 128, .inl B_6.2.2.1)), (z8, .inl (cI, 128, .inl B_6.2.2.2.1)), (z9, .inl (cI, 64, .inl td))] H := hP
      have hD : va_D A [(mo, .inr (3, [.int col, .ref z1, .ref z2, .ref z3, .ref z4, .ref z5, .ref z6, .ref z7, .ref z8, .ref z9, .int lf, .int B_6.2.2.2.2.1, .int B_6.2.2.2.2.2.1, .int B_6.2.2.2.2.2.2, .int laid, .int piled, .int prs, .int thr])), (z1, .inl (cI, 64, .inl hs)), (z2, .inl (cI, 64, .inl cs)), (z3, .inl (cI, 128, .inl fi)), (z4, .inl (cI, 128, .inl la)), (z5, .inl (cI, 128, .inl B_6.1)), (z6, .inl (cI, 128, .inl B_6.2.1)), (z7, .inl (cI, 128, .inl B_6.2.2.1)), (z8, .inl (cI, 128, .inl B_6.2.2.2.1)), (z9, .inl (cI, 64, .inl td))] := hD
      refine W.eq (g2 := F0 m 39 ls []) rfl ?_
      refine lv_iinc (v := nI (((2 * e) + 1) + 1)) (lv' := [(2, .int (nI (((2 * e) + 1) + 1))), (0, .ref mo), (1, .int (nI e))]) hx hb dX3_catchUp_39 hl (k := 0) rfl (nI_add _ 1) (by decide) rfl (fun ls hl => ?_)
      refine lv_goto (tgt := 4) hx hb dX3_catchUp_42 (by decide) ?_
      refine lv_iload_n hx hb dX3_catchUp_4 rfl (lv_at hl 0 rfl) ?_
      refine lv_iconst (v := 2) hx hb dX3_catchUp_5 (by decide) ?_
      refine lv_iload_n hx hb dX3_catchUp_6 rfl (lv_at hl 2 rfl) ?_
      refine lv_imul hx hb dX3_catchUp_7 ?_
      refine pq_top (nI (2 * e)) (pk_mul 2 _) ?_
      refine lv_iconst (v := 1) hx hb dX3_catchUp_8 (by decide) ?_
      refine lv_iadd hx hb dX3_catchUp_9 ?_
      refine pq_top (nI ((2 * e) + 1)) (nI_1 _) ?_
      refine lv_icmp_gt (tgt := 45) hx hb dX3_catchUp_10 (by decide) (fun _ => ?_) (fun c9 => absurd (nI_lt (a := ((2 * e) + 1)) (b := (((2 * e) + 1) + 1)) (by omega) (by omega)) c9)
      exact pq_vret hQ hx hb hr hlocks hK hS hP hD dX3_catchUp_45 (by omega) (by omega) (⟨rfl, by subst hB_6; subst hB_4; unfold mCatch2; rw [show mCatch B (2 * e) e = (bPress B (2 * e) (B.1 e)) from if_pos c_1, show mCatch (bPress B (2 * e) (B.1 e)) (2 * e + 1) e = (bPress (bPress B (2 * e) (B.1 e)) (2 * e + 1) ((bPress B (2 * e) (B.1 e)).1 e)) from if_pos c_5] <;> rfl⟩)

set_option maxHeartbeats 4000000 in
set_option maxRecDepth 100000 in
theorem mX3_tell (l : Launch) (D : va_G) (cI : ClassId) (mo z1 z2 z3 z4 z5 z6 z7 z8 z9 : Nat) (col : Int32) (hs cs fi la : Nat → Int32) (B : BK) (td : Nat → Int32) (lf laid piled prs thr : Int32) (e : Nat) (he : e < 64) : pq_M l yX3_tell wsX3_tell 0 0 0 0 D [(cI, .int)] pq_0 (mdW mo z1 z2 z3 z4 z5 z6 z7 z8 z9 cI col hs cs fi la B td lf laid piled prs thr) [.ref mo, .int (nI e)] (fun v w1 => v = none ∧ w1 = mdW mo z1 z2 z3 z4 z5 z6 z7 z8 z9 cI col hs cs fi la (mTell B e) td lf laid piled prs thr) := by
  refine pq_enter (cc := cX3_tell) (maxL := 6) (ret := none) (by decide) rfl (Nat.le_of_ble_eq_true rfl) ?_
  intro p ev s m args below meth cd A ls Q H locs hx hb hr hml hts hown hlocks hnm hK hP hD hS hA hE hl hQ
  have hl : lv_has ls 6 [(0, .ref mo), (1, .int (nI e))] := hl
  have hP : va_P D vwCl [(mo, .inr (3, [.int col, .ref z1, .ref z2, .ref z3, .ref z4, .ref z5, .ref z6, .ref z7, .ref z8, .ref z9, .int lf, .int B.2.2.2.2.1, .int B.2.2.2.2.2.1, .int B.2.2.2.2.2.2, .int laid, .int piled, .int prs, .int thr])), (z1, .inl (cI, 64, .inl hs)), (z2, .inl (cI, 64, .inl cs)), (z3, .inl (cI, 128, .inl fi)), (z4, .inl (cI, 128, .inl la)), (z5, .inl (cI, 128, .inl B.1)), (z6, .inl (cI, 128, .inl B.2.1)), (z7, .inl (cI, 128, .inl B.2.2.1)), (z8, .inl (cI, 128, .inl B.2.2.2.1)), (z9, .inl (cI, 64, .inl td))] H := hP
  have hD : va_D A [(mo, .inr (3, [.int col, .ref z1, .ref z2, .ref z3, .ref z4, .ref z5, .ref z6, .ref z7, .ref z8, .ref z9, .int lf, .int B.2.2.2.2.1, .int B.2.2.2.2.2.1, .int B.2.2.2.2.2.2, .int laid, .int piled, .int prs, .int thr])), (z1, .inl (cI, 64, .inl hs)), (z2, .inl (cI, 64, .inl cs)), (z3, .inl (cI, 128, .inl fi)), (z4, .inl (cI, 128, .inl la)), (z5, .inl (cI, 128, .inl B.1)), (z6, .inl (cI, 128, .inl B.2.1)), (z7, .inl (cI, 128, .inl B.2.2.1)), (z8, .inl (cI, 128, .inl B.2.2.2.1)), (z9, .inl (cI, 64, .inl td))] := hD
  have hin_X3 : ∀ w ∈ wsX30, w ∈ wsX3_tell := by decide +kernel
  have hf_PressedPlainsModel_22 := hts (.fieldLink RX3 22 "PressedPlainsModel" "greatest" "[I") (by decide +kernel)
  have hf_PressedPlainsModel_28 := hts (.fieldLink RX3 28 "PressedPlainsModel" "many" "[I") (by decide +kernel)
  have hf_PressedPlainsModel_25 := hts (.fieldLink RX3 25 "PressedPlainsModel" "second" "[I") (by decide +kernel)
  have hf_PressedPlainsModel_31 := hts (.fieldLink RX3 31 "PressedPlainsModel" "sum" "[I") (by decide +kernel)
  refine lv_iconst (v := 2) hx hb dX3_tell_0 (by decide) ?_
  refine lv_iload_n hx hb dX3_tell_1 rfl (lv_at hl 1 rfl) ?_
  refine lv_imul hx hb dX3_tell_2 ?_
  refine pq_top (nI (2 * e)) (pk_mul 2 _) ?_
  refine lv_istore_n (lv' := [(2, .int (nI (2 * e))), (0, .ref mo), (1, .int (nI e))]) hx hb dX3_tell_3 rfl hl (by decide) rfl (fun ls hl => ?_)
  refine lv_iload_n hx hb dX3_tell_4 rfl (lv_at hl 0 rfl) ?_
  refine lv_iconst (v := 1) hx hb dX3_tell_5 (by decide) ?_
  refine lv_iadd hx hb dX3_tell_6 ?_
  refine pq_top (nI ((2 * e) + 1)) (nI_1 _) ?_
  refine lv_istore_n (lv' := [(3, .int (nI ((2 * e) + 1))), (2, .int (nI (2 * e))), (0, .ref mo), (1, .int (nI e))]) hx hb dX3_tell_7 rfl hl (by decide) rfl (fun ls hl => ?_)
  have J1 : ∀ (H : Heap) (locs : List Loc) (ls : Array Slot), va_P D vwCl [(mo, .inr (3, [.int col, .ref z1, .ref z2, .ref z3, .ref z4, .ref z5, .ref z6, .ref z7, .ref z8, .ref z9, .int lf, .int B.2.2.2.2.1, .int B.2.2.2.2.2.1, .int B.2.2.2.2.2.2, .int laid, .int piled, .int prs, .int thr])), (z1, .inl (cI, 64, .inl hs)), (z2, .inl (cI, 64, .inl cs)), (z3, .inl (cI, 128, .inl fi)), (z4, .inl (cI, 128, .inl la)), (z5, .inl (cI, 128, .inl B.1)), (z6, .inl (cI, 128, .inl B.2.1)), (z7, .inl (cI, 128, .inl B.2.2.1)), (z8, .inl (cI, 128, .inl B.2.2.2.1)), (z9, .inl (cI, 64, .inl td))] H → va_D A [(mo, .inr (3, [.int col, .ref z1, .ref z2, .ref z3, .ref z4, .ref z5, .ref z6, .ref z7, .ref z8, .ref z9, .int lf, .int B.2.2.2.2.1, .int B.2.2.2.2.2.1, .int B.2.2.2.2.2.2, .int laid, .int piled, .int prs, .int thr])), (z1, .inl (cI, 64, .inl hs)), (z2, .inl (cI, 64, .inl cs)), (z3, .inl (cI, 128, .inl fi)), (z4, .inl (cI, 128, .inl la)), (z5, .inl (cI, 128, .inl B.1)), (z6, .inl (cI, 128, .inl B.2.1)), (z7, .inl (cI, 128, .inl B.2.2.1)), (z8, .inl (cI, 128, .inl B.2.2.2.1)), (z9, .inl (cI, 64, .inl td))] → va_S A s.heap H locs → lv_has ls 6 [(3, .int (nI ((2 * e) + 1))), (2, .int (nI (2 * e))), (0, .ref mo), (1, .int (nI e))] → W p l ev (pq_R 0 0 0 0) s m args below meth cd H locs 0 0 Q (F0 m 38 ls [.int (mTop B e)]) := by
    intro H locs ls hP hD hS hl
    refine lv_istore (lv' := [(4, .int (mTop B e)), (3, .int (nI ((2 * e) + 1))), (2, .int (nI (2 * e))), (0, .ref mo), (1, .int (nI e))]) hx hb dX3_tell_38 hl (by decide) rfl (fun ls hl => ?_)
    refine lv_aload_n hx hb dX3_tell_40 rfl (lv_at hl 3 rfl) ?_
    refine va_get (D := D) (ci := 3) (v := .ref z5) (C := RX3) (T := TX3) (N := 18) hx hb hts hin_X3 hown hK hP 0 rfl rfl 5 (by decide) hf_PressedPlainsModel_22 (fun _ h9 => h9) rfl dX3_tell_41 ?_
    refine lv_iload_n hx hb dX3_tell_44 rfl (lv_at hl 4 rfl) ?_
    refine lv_iload hx hb dX3_tell_45 (lv_at hl 0 rfl) ?_
    refine pq_iast hx hb hK hP hD hS 5 0 rfl rfl e (by omega) (by decide) dX3_tell_47 (fun H locs hP hD hS => ?_)
    have hP : va_P D vwCl [(mo, .inr (3, [.int col, .ref z1, .ref z2, .ref z3, .ref z4, .ref z5, .ref z6, .ref z7, .ref z8, .ref z9, .int lf, .int B.2.2.2.2.1, .int B.2.2.2.2.2.1, .int B.2.2.2.2.2.2, .int laid, .int piled, .int prs, .int thr])), (z1, .inl (cI, 64, .inl hs)), (z2, .inl (cI, 64, .inl cs)), (z3, .inl (cI, 128, .inl fi)), (z4, .inl (cI, 128, .inl la)), (z5, .inl (cI, 128, .inl (upd B.1 e (mTop B e)))), (z6, .inl (cI, 128, .inl B.2.1)), (z7, .inl (cI, 128, .inl B.2.2.1)), (z8, .inl (cI, 128, .inl B.2.2.2.1)), (z9, .inl (cI, 64, .inl td))] H := hP
    have hD : va_D A [(mo, .inr (3, [.int col, .ref z1, .ref z2, .ref z3, .ref z4, .ref z5, .ref z6, .ref z7, .ref z8, .ref z9, .int lf, .int B.2.2.2.2.1, .int B.2.2.2.2.2.1, .int B.2.2.2.2.2.2, .int laid, .int piled, .int prs, .int thr])), (z1, .inl (cI, 64, .inl hs)), (z2, .inl (cI, 64, .inl cs)), (z3, .inl (cI, 128, .inl fi)), (z4, .inl (cI, 128, .inl la)), (z5, .inl (cI, 128, .inl (upd B.1 e (mTop B e)))), (z6, .inl (cI, 128, .inl B.2.1)), (z7, .inl (cI, 128, .inl B.2.2.1)), (z8, .inl (cI, 128, .inl B.2.2.2.1)), (z9, .inl (cI, 64, .inl td))] := hD
    refine lv_aload_n hx hb dX3_tell_48 rfl (lv_at hl 3 rfl) ?_
    refine va_get (D := D) (ci := 3) (v := .ref z7) (C := RX3) (T := TX3) (N := 18) hx hb hts hin_X3 hown hK hP 0 rfl rfl 7 (by decide) hf_PressedPlainsModel_28 (fun _ h9 => h9) rfl dX3_tell_49 ?_
    refine lv_iload_n hx hb dX3_tell_52 rfl (lv_at hl 4 rfl) ?_
    have J2 : ∀ (H : Heap) (locs : List Loc) (ls : Array Slot), va_P D vwCl [(mo, .inr (3, [.int col, .ref z1, .ref z2, .ref z3, .ref z4, .ref z5, .ref z6, .ref z7, .ref z8, .ref z9, .int lf, .int B.2.2.2.2.1, .int B.2.2.2.2.2.1, .int B.2.2.2.2.2.2, .int laid, .int piled, .int prs, .int thr])), (z1, .inl (cI, 64, .inl hs)), (z2, .inl (cI, 64, .inl cs)), (z3, .inl (cI, 128, .inl fi)), (z4, .inl (cI, 128, .inl la)), (z5, .inl (cI, 128, .inl (upd B.1 e (mTop B e)))), (z6, .inl (cI, 128, .inl B.2.1)), (z7, .inl (cI, 128, .inl B.2.2.1)), (z8, .inl (cI, 128, .inl B.2.2.2.1)), (z9, .inl (cI, 64, .inl td))] H → va_D A [(mo, .inr (3, [.int col, .ref z1, .ref z2, .ref z3, .ref z4, .ref z5, .ref z6, .ref z7, .ref z8, .ref z9, .int lf, .int B.2.2.2.2.1, .int B.2.2.2.2.2.1, .int B.2.2.2.2.2.2, .int laid, .int piled, .int prs, .int thr])), (z1, .inl (cI, 64, .inl hs)), (z2, .inl (cI, 64, .inl cs)), (z3, .inl (cI, 128, .inl fi)), (z4, .inl (cI, 128, .inl la)), (z5, .inl (cI, 128, .inl (upd B.1 e (mTop B e)))), (z6, .inl (cI, 128, .inl B.2.1)), (z7, .inl (cI, 128, .inl B.2.2.1)), (z8, .inl (cI, 128, .inl B.2.2.2.1)), (z9, .inl (cI, 64, .inl td))] → va_S A s.heap H locs → lv_has ls 6 [(4, .int (mTop B e)), (3, .int (nI ((2 * e) + 1))), (2, .int (nI (2 * e))), (0, .ref mo), (1, .int (nI e))] → W p l ev (pq_R 0 0 0 0) s m args below meth cd H locs 0 0 Q (F0 m 74 ls [.int (bMany (upd B.1 e (mTop B e)) B.2.2.1 (2 * e) (mTop B e)), .int (nI e), .ref z7]) := by
      intro H locs ls hP hD hS hl
      have J3 : ∀ (H : Heap) (locs : List Loc) (ls : Array Slot), va_P D vwCl [(mo, .inr (3, [.int col, .ref z1, .ref z2, .ref z3, .ref z4, .ref z5, .ref z6, .ref z7, .ref z8, .ref z9, .int lf, .int B.2.2.2.2.1, .int B.2.2.2.2.2.1, .int B.2.2.2.2.2.2, .int laid, .int piled, .int prs, .int thr])), (z1, .inl (cI, 64, .inl hs)), (z2, .inl (cI, 64, .inl cs)), (z3, .inl (cI, 128, .inl fi)), (z4, .inl (cI, 128, .inl la)), (z5, .inl (cI, 128, .inl (upd B.1 e (mTop B e)))), (z6, .inl (cI, 128, .inl B.2.1)), (z7, .inl (cI, 128, .inl B.2.2.1)), (z8, .inl (cI, 128, .inl B.2.2.2.1)), (z9, .inl (cI, 64, .inl td))] H → va_D A [(mo, .inr (3, [.int col, .ref z1, .ref z2, .ref z3, .ref z4, .ref z5, .ref z6, .ref z7, .ref z8, .ref z9, .int lf, .int B.2.2.2.2.1, .int B.2.2.2.2.2.1, .int B.2.2.2.2.2.2, .int laid, .int piled, .int prs, .int thr])), (z1, .inl (cI, 64, .inl hs)), (z2, .inl (cI, 64, .inl cs)), (z3, .inl (cI, 128, .inl fi)), (z4, .inl (cI, 128, .inl la)), (z5, .inl (cI, 128, .inl (upd B.1 e (mTop B e)))), (z6, .inl (cI, 128, .inl B.2.1)), (z7, .inl (cI, 128, .inl B.2.2.1)), (z8, .inl (cI, 128, .inl B.2.2.2.1)), (z9, .inl (cI, 64, .inl td))] → va_S A s.heap H locs → lv_has ls 6 [(4, .int (mTop B e)), (3, .int (nI ((2 * e) + 1))), (2, .int (nI (2 * e))), (0, .ref mo), (1, .int (nI e))] → W p l ev (pq_R 0 0 0 0) s m args below meth cd H locs 0 0 Q (F0 m 95 ls [.int (bMany (upd B.1 e (mTop B e)) B.2.2.1 (2 * e + 1) (mTop B e)), .int (bMany (upd B.1 e (mTop B e)) B.2.2.1 (2 * e) (mTop B e)), .int (nI e), .ref z7]) := by
        intro H locs ls hP hD hS hl
        refine lv_iadd hx hb dX3_tell_95 ?_
        refine pq_iast hx hb hK hP hD hS 7 0 rfl rfl e (by omega) (by decide) dX3_tell_96 (fun H locs hP hD hS => ?_)
        have hP : va_P D vwCl [(mo, .inr (3, [.int col, .ref z1, .ref z2, .ref z3, .ref z4, .ref z5, .ref z6, .ref z7, .ref z8, .ref z9, .int lf, .int B.2.2.2.2.1, .int B.2.2.2.2.2.1, .int B.2.2.2.2.2.2, .int laid, .int piled, .int prs, .int thr])), (z1, .inl (cI, 64, .inl hs)), (z2, .inl (cI, 64, .inl cs)), (z3, .inl (cI, 128, .inl fi)), (z4, .inl (cI, 128, .inl la)), (z5, .inl (cI, 128, .inl (upd B.1 e (mTop B e)))), (z6, .inl (cI, 128, .inl B.2.1)), (z7, .inl (cI, 128, .inl (upd B.2.2.1 e ((bMany (upd B.1 e (mTop B e)) B.2.2.1 (2 * e) (mTop B e)) + (bMany (upd B.1 e (mTop B e)) B.2.2.1 (2 * e + 1) (mTop B e)))))), (z8, .inl (cI, 128, .inl B.2.2.2.1)), (z9, .inl (cI, 64, .inl td))] H := hP
        have hD : va_D A [(mo, .inr (3, [.int col, .ref z1, .ref z2, .ref z3, .ref z4, .ref z5, .ref z6, .ref z7, .ref z8, .ref z9, .int lf, .int B.2.2.2.2.1, .int B.2.2.2.2.2.1, .int B.2.2.2.2.2.2, .int laid, .int piled, .int prs, .int thr])), (z1, .inl (cI, 64, .inl hs)), (z2, .inl (cI, 64, .inl cs)), (z3, .inl (cI, 128, .inl fi)), (z4, .inl (cI, 128, .inl la)), (z5, .inl (cI, 128, .inl (upd B.1 e (mTop B e)))), (z6, .inl (cI, 128, .inl B.2.1)), (z7, .inl (cI, 128, .inl (upd B.2.2.1 e ((bMany (upd B.1 e (mTop B e)) B.2.2.1 (2 * e) (mTop B e)) + (bMany (upd B.1 e (mTop B e)) B.2.2.1 (2 * e + 1) (mTop B e)))))), (z8, .inl (cI, 128, .inl B.2.2.2.1)), (z9, .inl (cI, 64, .inl td))] := hD
        have J4 : ∀ (H : Heap) (locs : List Loc) (ls : Array Slot), va_P D vwCl [(mo, .inr (3, [.int col, .ref z1, .ref z2, .ref z3, .ref z4, .ref z5, .ref z6, .ref z7, .ref z8, .ref z9, .int lf, .int B.2.2.2.2.1, .int B.2.2.2.2.2.1, .int B.2.2.2.2.2.2, .int laid, .int piled, .int prs, .int thr])), (z1, .inl (cI, 64, .inl hs)), (z2, .inl (cI, 64, .inl cs)), (z3, .inl (cI, 128, .inl fi)), (z4, .inl (cI, 128, .inl la)), (z5, .inl (cI, 128, .inl (upd B.1 e (mTop B e)))), (z6, .inl (cI, 128, .inl B.2.1)), (z7, .inl (cI, 128, .inl (upd B.2.2.1 e ((bMany (upd B.1 e (mTop B e)) B.2.2.1 (2 * e) (mTop B e)) + (bMany (upd B.1 e (mTop B e)) B.2.2.1 (2 * e + 1) (mTop B e)))))), (z8, .inl (cI, 128, .inl B.2.2.2.1)), (z9, .inl (cI, 64, .inl td))] H → va_D A [(mo, .inr (3, [.int col, .ref z1, .ref z2, .ref z3, .ref z4, .ref z5, .ref z6, .ref z7, .ref z8, .ref z9, .int lf, .int B.2.2.2.2.1, .int B.2.2.2.2.2.1, .int B.2.2.2.2.2.2, .int laid, .int piled, .int prs, .int thr])), (z1, .inl (cI, 64, .inl hs)), (z2, .inl (cI, 64, .inl cs)), (z3, .inl (cI, 128, .inl fi)), (z4, .inl (cI, 128, .inl la)), (z5, .inl (cI, 128, .inl (upd B.1 e (mTop B e)))), (z6, .inl (cI, 128, .inl B.2.1)), (z7, .inl (cI, 128, .inl (upd B.2.2.1 e ((bMany (upd B.1 e (mTop B e)) B.2.2.1 (2 * e) (mTop B e)) + (bMany (upd B.1 e (mTop B e)) B.2.2.1 (2 * e + 1) (mTop B e)))))), (z8, .inl (cI, 128, .inl B.2.2.2.1)), (z9, .inl (cI, 64, .inl td))] → va_S A s.heap H locs → lv_has ls 6 [(4, .int (mTop B e)), (3, .int (nI ((2 * e) + 1))), (2, .int (nI (2 * e))), (0, .ref mo), (1, .int (nI e))] → W p l ev (pq_R 0 0 0 0) s m args below meth cd H locs 0 0 Q (F0 m 127 ls [.int (mMax (B.2.1 (2 * e)) (B.2.1 (2 * e + 1)))]) := by
          intro H locs ls hP hD hS hl
          refine lv_istore (lv' := [(5, .int (mMax (B.2.1 (2 * e)) (B.2.1 (2 * e + 1)))), (4, .int (mTop B e)), (3, .int (nI ((2 * e) + 1))), (2, .int (nI (2 * e))), (0, .ref mo), (1, .int (nI e))]) hx hb dX3_tell_127 hl (by decide) rfl (fun ls hl => ?_)
          have J5 : ∀ (H : Heap) (locs : List Loc) (ls : Array Slot), va_P D vwCl [(mo, .inr (3, [.int col, .ref z1, .ref z2, .ref z3, .ref z4, .ref z5, .ref z6, .ref z7, .ref z8, .ref z9, .int lf, .int B.2.2.2.2.1, .int B.2.2.2.2.2.1, .int B.2.2.2.2.2.2, .int laid, .int piled, .int prs, .int thr])), (z1, .inl (cI, 64, .inl hs)), (z2, .inl (cI, 64, .inl cs)), (z3, .inl (cI, 128, .inl fi)), (z4, .inl (cI, 128, .inl la)), (z5, .inl (cI, 128, .inl (upd B.1 e (mTop B e)))), (z6, .inl (cI, 128, .inl B.2.1)), (z7, .inl (cI, 128, .inl (upd B.2.2.1 e ((bMany (upd B.1 e (mTop B e)) B.2.2.1 (2 * e) (mTop B e)) + (bMany (upd B.1 e (mTop B e)) B.2.2.1 (2 * e + 1) (mTop B e)))))), (z8, .inl (cI, 128, .inl B.2.2.2.1)), (z9, .inl (cI, 64, .inl td))] H → va_D A [(mo, .inr (3, [.int col, .ref z1, .ref z2, .ref z3, .ref z4, .ref z5, .ref z6, .ref z7, .ref z8, .ref z9, .int lf, .int B.2.2.2.2.1, .int B.2.2.2.2.2.1, .int B.2.2.2.2.2.2, .int laid, .int piled, .int prs, .int thr])), (z1, .inl (cI, 64, .inl hs)), (z2, .inl (cI, 64, .inl cs)), (z3, .inl (cI, 128, .inl fi)), (z4, .inl (cI, 128, .inl la)), (z5, .inl (cI, 128, .inl (upd B.1 e (mTop B e)))), (z6, .inl (cI, 128, .inl B.2.1)), (z7, .inl (cI, 128, .inl (upd B.2.2.1 e ((bMany (upd B.1 e (mTop B e)) B.2.2.1 (2 * e) (mTop B e)) + (bMany (upd B.1 e (mTop B e)) B.2.2.1 (2 * e + 1) (mTop B e)))))), (z8, .inl (cI, 128, .inl B.2.2.2.1)), (z9, .inl (cI, 64, .inl td))] → va_S A s.heap H locs → lv_has ls 6 [(5, .int (mMax (B.2.1 (2 * e)) (B.2.1 (2 * e + 1)))), (4, .int (mTop B e)), (3, .int (nI ((2 * e) + 1))), (2, .int (nI (2 * e))), (0, .ref mo), (1, .int (nI e))] → W p l ev (pq_R 0 0 0 0) s m args below meth cd H locs 0 0 Q (F0 m 162 ls [.int (mLow (upd B.1 e (mTop B e)) (2 * e) (mTop B e) (mMax (B.2.1 (2 * e)) (B.2.1 (2 * e + 1))))]) := by
            intro H locs ls hP hD hS hl
            refine lv_istore (lv' := [(5, .int (mLow (upd B.1 e (mTop B e)) (2 * e) (mTop B e) (mMax (B.2.1 (2 * e)) (B.2.1 (2 * e + 1))))), (4, .int (mTop B e)), (3, .int (nI ((2 * e) + 1))), (2, .int (nI (2 * e))), (0, .ref mo), (1, .int (nI e))]) hx hb dX3_tell_162 hl (by decide) rfl (fun ls hl => ?_)
            refine lv_aload_n hx hb dX3_tell_164 rfl (lv_at hl 4 rfl) ?_
            refine va_get (D := D) (ci := 3) (v := .ref z6) (C := RX3) (T := TX3) (N := 18) hx hb hts hin_X3 hown hK hP 0 rfl rfl 6 (by decide) hf_PressedPlainsModel_25 (fun _ h9 => h9) rfl dX3_tell_165 ?_
            refine lv_iload_n hx hb dX3_tell_168 rfl (lv_at hl 5 rfl) ?_
            have J6 : ∀ (H : Heap) (locs : List Loc) (ls : Array Slot), va_P D vwCl [(mo, .inr (3, [.int col, .ref z1, .ref z2, .ref z3, .ref z4, .ref z5, .ref z6, .ref z7, .ref z8, .ref z9, .int lf, .int B.2.2.2.2.1, .int B.2.2.2.2.2.1, .int B.2.2.2.2.2.2, .int laid, .int piled, .int prs, .int thr])), (z1, .inl (cI, 64, .inl hs)), (z2, .inl (cI, 64, .inl cs)), (z3, .inl (cI, 128, .inl fi)), (z4, .inl (cI, 128, .inl la)), (z5, .inl (cI, 128, .inl (upd B.1 e (mTop B e)))), (z6, .inl (cI, 128, .inl B.2.1)), (z7, .inl (cI, 128, .inl (upd B.2.2.1 e ((bMany (upd B.1 e (mTop B e)) B.2.2.1 (2 * e) (mTop B e)) + (bMany (upd B.1 e (mTop B e)) B.2.2.1 (2 * e + 1) (mTop B e)))))), (z8, .inl (cI, 128, .inl B.2.2.2.1)), (z9, .inl (cI, 64, .inl td))] H → va_D A [(mo, .inr (3, [.int col, .ref z1, .ref z2, .ref z3, .ref z4, .ref z5, .ref z6, .ref z7, .ref z8, .ref z9, .int lf, .int B.2.2.2.2.1, .int B.2.2.2.2.2.1, .int B.2.2.2.2.2.2, .int laid, .int piled, .int prs, .int thr])), (z1, .inl (cI, 64, .inl hs)), (z2, .inl (cI, 64, .inl cs)), (z3, .inl (cI, 128, .inl fi)), (z4, .inl (cI, 128, .inl la)), (z5, .inl (cI, 128, .inl (upd B.1 e (mTop B e)))), (z6, .inl (cI, 128, .inl B.2.1)), (z7, .inl (cI, 128, .inl (upd B.2.2.1 e ((bMany (upd B.1 e (mTop B e)) B.2.2.1 (2 * e) (mTop B e)) + (bMany (upd B.1 e (mTop B e)) B.2.2.1 (2 * e + 1) (mTop B e)))))), (z8, .inl (cI, 128, .inl B.2.2.2.1)), (z9, .inl (cI, 64, .inl td))] → va_S A s.heap H locs → lv_has ls 6 [(5, .int (mLow (upd B.1 e (mTop B e)) (2 * e) (mTop B e) (mMax (B.2.1 (2 * e)) (B.2.1 (2 * e + 1))))), (4, .int (mTop B e)), (3, .int (nI ((2 * e) + 1))), (2, .int (nI (2 * e))), (0, .ref mo), (1, .int (nI e))] → W p l ev (pq_R 0 0 0 0) s m args below meth cd H locs 0 0 Q (F0 m 202 ls [.int (mLow (upd B.1 e (mTop B e)) (2 * e + 1) (mTop B e) (mLow (upd B.1 e (mTop B e)) (2 * e) (mTop B e) (mMax (B.2.1 (2 * e)) (B.2.1 (2 * e + 1))))), .int (nI e), .ref z6]) := by
              intro H locs ls hP hD hS hl
              refine pq_iast hx hb hK hP hD hS 6 0 rfl rfl e (by omega) (by decide) dX3_tell_202 (fun H locs hP hD hS => ?_)
              have hP : va_P D vwCl [(mo, .inr (3, [.int col, .ref z1, .ref z2, .ref z3, .ref z4, .ref z5, .ref z6, .ref z7, .ref z8, .ref z9, .int lf, .int B.2.2.2.2.1, .int B.2.2.2.2.2.1, .int B.2.2.2.2.2.2, .int laid, .int piled, .int prs, .int thr])), (z1, .inl (cI, 64, .inl hs)), (z2, .inl (cI, 64, .inl cs)), (z3, .inl (cI, 128, .inl fi)), (z4, .inl (cI, 128, .inl la)), (z5, .inl (cI, 128, .inl (upd B.1 e (mTop B e)))), (z6, .inl (cI, 128, .inl (upd B.2.1 e (mLow (upd B.1 e (mTop B e)) (2 * e + 1) (mTop B e) (mLow (upd B.1 e (mTop B e)) (2 * e) (mTop B e) (mMax (B.2.1 (2 * e)) (B.2.1 (2 * e + 1)))))))), (z7, .inl (cI, 128, .inl (upd B.2.2.1 e ((bMany (upd B.1 e (mTop B e)) B.2.2.1 (2 * e) (mTop B e)) + (bMany (upd B.1 e (mTop B e)) B.2.2.1 (2 * e + 1) (mTop B e)))))), (z8, .inl (cI, 128, .inl B.2.2.2.1)), (z9, .inl (cI, 64, .inl td))] H := hP
              have hD : va_D A [(mo, .inr (3, [.int col, .ref z1, .ref z2, .ref z3, .ref z4, .ref z5, .ref z6, .ref z7, .ref z8, .ref z9, .int lf, .int B.2.2.2.2.1, .int B.2.2.2.2.2.1, .int B.2.2.2.2.2.2, .int laid, .int piled, .int prs, .int thr])), (z1, .inl (cI, 64, .inl hs)), (z2, .inl (cI, 64, .inl cs)), (z3, .inl (cI, 128, .inl fi)), (z4, .inl (cI, 128, .inl la)), (z5, .inl (cI, 128, .inl (upd B.1 e (mTop B e)))), (z6, .inl (cI, 128, .inl (upd B.2.1 e (mLow (upd B.1 e (mTop B e)) (2 * e + 1) (mTop B e) (mLow (upd B.1 e (mTop B e)) (2 * e) (mTop B e) (mMax (B.2.1 (2 * e)) (B.2.1 (2 * e + 1)))))))), (z7, .inl (cI, 128, .inl (upd B.2.2.1 e ((bMany (upd B.1 e (mTop B e)) B.2.2.1 (2 * e) (mTop B e)) + (bMany (upd B.1 e (mTop B e)) B.2.2.1 (2 * e + 1) (mTop B e)))))), (z8, .inl (cI, 128, .inl B.2.2.2.1)), (z9, .inl (cI, 64, .inl td))] := hD
              refine lv_aload_n hx hb dX3_tell_203 rfl (lv_at hl 4 rfl) ?_
              refine va_get (D := D) (ci := 3) (v := .ref z8) (C := RX3) (T := TX3) (N := 18) hx hb hts hin_X3 hown hK hP 0 rfl rfl 8 (by decide) hf_PressedPlainsModel_31 (fun _ h9 => h9) rfl dX3_tell_204 ?_
              refine lv_iload_n hx hb dX3_tell_207 rfl (lv_at hl 5 rfl) ?_
              refine lv_aload_n hx hb dX3_tell_208 rfl (lv_at hl 4 rfl) ?_
              refine va_get (D := D) (ci := 3) (v := .ref z8) (C := RX3) (T := TX3) (N := 18) hx hb hts hin_X3 hown hK hP 0 rfl rfl 8 (by decide) hf_PressedPlainsModel_31 (fun _ h9 => h9) rfl dX3_tell_209 ?_
              refine lv_iload_n hx hb dX3_tell_212 rfl (lv_at hl 3 rfl) ?_
              refine pq_iald hx hb hK hP 8 0 rfl rfl (2 * e) (by omega) (by decide) dX3_tell_213 ?_
              refine lv_aload_n hx hb dX3_tell_214 rfl (lv_at hl 4 rfl) ?_
              refine va_get (D := D) (ci := 3) (v := .ref z8) (C := RX3) (T := TX3) (N := 18) hx hb hts hin_X3 hown hK hP 0 rfl rfl 8 (by decide) hf_PressedPlainsModel_31 (fun _ h9 => h9) rfl dX3_tell_215 ?_
              refine lv_iload_n hx hb dX3_tell_218 rfl (lv_at hl 2 rfl) ?_
              refine pq_iald hx hb hK hP 8 0 rfl rfl ((2 * e) + 1) (by omega) (by decide) dX3_tell_219 ?_
              refine lv_iadd hx hb dX3_tell_220 ?_
              refine pq_iast hx hb hK hP hD hS 8 0 rfl rfl e (by omega) (by decide) dX3_tell_221 (fun H locs hP hD hS => ?_)
              have hP : va_P D vwCl [(mo, .inr (3, [.int col, .ref z1, .ref z2, .ref z3, .ref z4, .ref z5, .ref z6, .ref z7, .ref z8, .ref z9, .int lf, .int B.2.2.2.2.1, .int B.2.2.2.2.2.1, .int B.2.2.2.2.2.2, .int laid, .int piled, .int prs, .int thr])), (z1, .inl (cI, 64, .inl hs)), (z2, .inl (cI, 64, .inl cs)), (z3, .inl (cI, 128, .inl fi)), (z4, .inl (cI, 128, .inl la)), (z5, .inl (cI, 128, .inl (upd B.1 e (mTop B e)))), (z6, .inl (cI, 128, .inl (upd B.2.1 e (mLow (upd B.1 e (mTop B e)) (2 * e + 1) (mTop B e) (mLow (upd B.1 e (mTop B e)) (2 * e) (mTop B e) (mMax (B.2.1 (2 * e)) (B.2.1 (2 * e + 1)))))))), (z7, .inl (cI, 128, .inl (upd B.2.2.1 e ((bMany (upd B.1 e (mTop B e)) B.2.2.1 (2 * e) (mTop B e)) + (bMany (upd B.1 e (mTop B e)) B.2.2.1 (2 * e + 1) (mTop B e)))))), (z8, .inl (cI, 128, .inl (upd B.2.2.2.1 e ((B.2.2.2.1 (2 * e)) + (B.2.2.2.1 ((2 * e) + 1)))))), (z9, .inl (cI, 64, .inl td))] H := hP
              have hD : va_D A [(mo, .inr (3, [.int col, .ref z1, .ref z2, .ref z3, .ref z4, .ref z5, .ref z6, .ref z7, .ref z8, .ref z9, .int lf, .int B.2.2.2.2.1, .int B.2.2.2.2.2.1, .int B.2.2.2.2.2.2, .int laid, .int piled, .int prs, .int thr])), (z1, .inl (cI, 64, .inl hs)), (z2, .inl (cI, 64, .inl cs)), (z3, .inl (cI, 128, .inl fi)), (z4, .inl (cI, 128, .inl la)), (z5, .inl (cI, 128, .inl (upd B.1 e (mTop B e)))), (z6, .inl (cI, 128, .inl (upd B.2.1 e (mLow (upd B.1 e (mTop B e)) (2 * e + 1) (mTop B e) (mLow (upd B.1 e (mTop B e)) (2 * e) (mTop B e) (mMax (B.2.1 (2 * e)) (B.2.1 (2 * e + 1)))))))), (z7, .inl (cI, 128, .inl (upd B.2.2.1 e ((bMany (upd B.1 e (mTop B e)) B.2.2.1 (2 * e) (mTop B e)) + (bMany (upd B.1 e (mTop B e)) B.2.2.1 (2 * e + 1) (mTop B e)))))), (z8, .inl (cI, 128, .inl (upd B.2.2.2.1 e ((B.2.2.2.1 (2 * e)) + (B.2.2.2.1 ((2 * e) + 1)))))), (z9, .inl (cI, 64, .inl td))] := hD
              exact pq_vret hQ hx hb hr hlocks hK hS hP hD dX3_tell_222 (by omega) (by omega) (⟨rfl, rfl⟩)
            refine lv_aload_n hx hb dX3_tell_169 rfl (lv_at hl 4 rfl) ?_
            refine va_get (D := D) (ci := 3) (v := .ref z5) (C := RX3) (T := TX3) (N := 18) hx hb hts hin_X3 hown hK hP 0 rfl rfl 5 (by decide) hf_PressedPlainsModel_22 (fun _ h9 => h9) rfl dX3_tell_170 ?_
            refine lv_iload_n hx hb dX3_tell_173 rfl (lv_at hl 2 rfl) ?_
            refine pq_iald hx hb hK hP 5 0 rfl rfl ((2 * e) + 1) (by omega) (by decide) dX3_tell_174 ?_
            refine lv_iload hx hb dX3_tell_175 (lv_at hl 1 rfl) ?_
            refine lv_icmp_ge (tgt := 200) hx hb dX3_tell_177 (by decide) (fun c_7 => ?_) (fun c_7 => ?_)
            · refine lv_iload hx hb dX3_tell_200 (lv_at hl 0 rfl) ?_
              refine pq_top (mLow (upd B.1 e (mTop B e)) (2 * e + 1) (mTop B e) (mLow (upd B.1 e (mTop B e)) (2 * e) (mTop B e) (mMax (B.2.1 (2 * e)) (B.2.1 (2 * e + 1))))) (by exact (if_pos c_7).symm) ?_
              exact J6 H locs ls hP hD hS hl
            · refine lv_aload_n hx hb dX3_tell_180 rfl (lv_at hl 4 rfl) ?_
              refine va_get (D := D) (ci := 3) (v := .ref z5) (C := RX3) (T := TX3) (N := 18) hx hb hts hin_X3 hown hK hP 0 rfl rfl 5 (by decide) hf_PressedPlainsModel_22 (fun _ h9 => h9) rfl dX3_tell_181 ?_
              refine lv_iload_n hx hb dX3_tell_184 rfl (lv_at hl 2 rfl) ?_
              refine pq_iald hx hb hK hP 5 0 rfl rfl ((2 * e) + 1) (by omega) (by decide) dX3_tell_185 ?_
              refine lv_iload hx hb dX3_tell_186 (lv_at hl 0 rfl) ?_
              refine lv_icmp_le (tgt := 200) hx hb dX3_tell_188 (by decide) (fun c_8 => ?_) (fun c_8 => ?_)
              · refine lv_iload hx hb dX3_tell_200 (lv_at hl 0 rfl) ?_
                refine pq_top (mLow (upd B.1 e (mTop B e)) (2 * e + 1) (mTop B e) (mLow (upd B.1 e (mTop B e)) (2 * e) (mTop B e) (mMax (B.2.1 (2 * e)) (B.2.1 (2 * e + 1))))) (by exact ((if_neg c_7).trans (if_pos c_8)).symm) ?_
                exact J6 H locs ls hP hD hS hl
              · refine lv_aload_n hx hb dX3_tell_191 rfl (lv_at hl 4 rfl) ?_
                refine va_get (D := D) (ci := 3) (v := .ref z5) (C := RX3) (T := TX3) (N := 18) hx hb hts hin_X3 hown hK hP 0 rfl rfl 5 (by decide) hf_PressedPlainsModel_22 (fun _ h9 => h9) rfl dX3_tell_192 ?_
                refine lv_iload_n hx hb dX3_tell_195 rfl (lv_at hl 2 rfl) ?_
                refine pq_iald hx hb hK hP 5 0 rfl rfl ((2 * e) + 1) (by omega) (by decide) dX3_tell_196 ?_
                refine lv_goto (tgt := 202) hx hb dX3_tell_197 (by decide) ?_
                refine pq_top (mLow (upd B.1 e (mTop B e)) (2 * e + 1) (mTop B e) (mLow (upd B.1 e (mTop B e)) (2 * e) (mTop B e) (mMax (B.2.1 (2 * e)) (B.2.1 (2 * e + 1))))) (by exact ((if_neg c_7).trans (if_neg c_8)).symm) ?_
                exact J6 H locs ls hP hD hS hl
          refine lv_aload_n hx hb dX3_tell_129 rfl (lv_at hl 4 rfl) ?_
          refine va_get (D := D) (ci := 3) (v := .ref z5) (C := RX3) (T := TX3) (N := 18) hx hb hts hin_X3 hown hK hP 0 rfl rfl 5 (by decide) hf_PressedPlainsModel_22 (fun _ h9 => h9) rfl dX3_tell_130 ?_
          refine lv_iload_n hx hb dX3_tell_133 rfl (lv_at hl 3 rfl) ?_
          refine pq_iald hx hb hK hP 5 0 rfl rfl (2 * e) (by omega) (by decide) dX3_tell_134 ?_
          refine lv_iload hx hb dX3_tell_135 (lv_at hl 1 rfl) ?_
          refine lv_icmp_ge (tgt := 160) hx hb dX3_tell_137 (by decide) (fun c_9 => ?_) (fun c_9 => ?_)
          · refine lv_iload hx hb dX3_tell_160 (lv_at hl 0 rfl) ?_
            refine pq_top (mLow (upd B.1 e (mTop B e)) (2 * e) (mTop B e) (mMax (B.2.1 (2 * e)) (B.2.1 (2 * e + 1)))) (by exact (if_pos c_9).symm) ?_
            exact J5 H locs ls hP hD hS hl
          · refine lv_aload_n hx hb dX3_tell_140 rfl (lv_at hl 4 rfl) ?_
            refine va_get (D := D) (ci := 3) (v := .ref z5) (C := RX3) (T := TX3) (N := 18) hx hb hts hin_X3 hown hK hP 0 rfl rfl 5 (by decide) hf_PressedPlainsModel_22 (fun _ h9 => h9) rfl dX3_tell_141 ?_
            refine lv_iload_n hx hb dX3_tell_144 rfl (lv_at hl 3 rfl) ?_
            refine pq_iald hx hb hK hP 5 0 rfl rfl (2 * e) (by omega) (by decide) dX3_tell_145 ?_
            refine lv_iload hx hb dX3_tell_146 (lv_at hl 0 rfl) ?_
            refine lv_icmp_le (tgt := 160) hx hb dX3_tell_148 (by decide) (fun c_10 => ?_) (fun c_10 => ?_)
            · refine lv_iload hx hb dX3_tell_160 (lv_at hl 0 rfl) ?_
              refine pq_top (mLow (upd B.1 e (mTop B e)) (2 * e) (mTop B e) (mMax (B.2.1 (2 * e)) (B.2.1 (2 * e + 1)))) (by exact ((if_neg c_9).trans (if_pos c_10)).symm) ?_
              exact J5 H locs ls hP hD hS hl
            · refine lv_aload_n hx hb dX3_tell_151 rfl (lv_at hl 4 rfl) ?_
              refine va_get (D := D) (ci := 3) (v := .ref z5) (C := RX3) (T := TX3) (N := 18) hx hb hts hin_X3 hown hK hP 0 rfl rfl 5 (by decide) hf_PressedPlainsModel_22 (fun _ h9 => h9) rfl dX3_tell_152 ?_
              refine lv_iload_n hx hb dX3_tell_155 rfl (lv_at hl 3 rfl) ?_
              refine pq_iald hx hb hK hP 5 0 rfl rfl (2 * e) (by omega) (by decide) dX3_tell_156 ?_
              refine lv_goto (tgt := 162) hx hb dX3_tell_157 (by decide) ?_
              refine pq_top (mLow (upd B.1 e (mTop B e)) (2 * e) (mTop B e) (mMax (B.2.1 (2 * e)) (B.2.1 (2 * e + 1)))) (by exact ((if_neg c_9).trans (if_neg c_10)).symm) ?_
              exact J5 H locs ls hP hD hS hl
        refine lv_aload_n hx hb dX3_tell_97 rfl (lv_at hl 3 rfl) ?_
        refine va_get (D := D) (ci := 3) (v := .ref z6) (C := RX3) (T := TX3) (N := 18) hx hb hts hin_X3 hown hK hP 0 rfl rfl 6 (by decide) hf_PressedPlainsModel_25 (fun _ h9 => h9) rfl dX3_tell_98 ?_
        refine lv_iload_n hx hb dX3_tell_101 rfl (lv_at hl 2 rfl) ?_
        refine pq_iald hx hb hK hP 6 0 rfl rfl (2 * e) (by omega) (by decide) dX3_tell_102 ?_
        refine lv_aload_n hx hb dX3_tell_103 rfl (lv_at hl 3 rfl) ?_
        refine va_get (D := D) (ci := 3) (v := .ref z6) (C := RX3) (T := TX3) (N := 18) hx hb hts hin_X3 hown hK hP 0 rfl rfl 6 (by decide) hf_PressedPlainsModel_25 (fun _ h9 => h9) rfl dX3_tell_104 ?_
        refine lv_iload_n hx hb dX3_tell_107 rfl (lv_at hl 1 rfl) ?_
        refine pq_iald hx hb hK hP 6 0 rfl rfl ((2 * e) + 1) (by omega) (by decide) dX3_tell_108 ?_
        refine lv_icmp_le (tgt := 121) hx hb dX3_tell_109 (by decide) (fun c_11 => ?_) (fun c_11 => ?_)
        · refine lv_aload_n hx hb dX3_tell_121 rfl (lv_at hl 3 rfl) ?_
          refine va_get (D := D) (ci := 3) (v := .ref z6) (C := RX3) (T := TX3) (N := 18) hx hb hts hin_X3 hown hK hP 0 rfl rfl 6 (by decide) hf_PressedPlainsModel_25 (fun _ h9 => h9) rfl dX3_tell_122 ?_
          refine lv_iload_n hx hb dX3_tell_125 rfl (lv_at hl 1 rfl) ?_
          refine pq_iald hx hb hK hP 6 0 rfl rfl ((2 * e) + 1) (by omega) (by decide) dX3_tell_126 ?_
          refine pq_top (mMax (B.2.1 (2 * e)) (B.2.1 (2 * e + 1))) (by unfold mMax; rw [if_pos c_11]) ?_
          exact J4 H locs ls hP hD hS hl
        · refine lv_aload_n hx hb dX3_tell_112 rfl (lv_at hl 3 rfl) ?_
          refine va_get (D := D) (ci := 3) (v := .ref z6) (C := RX3) (T := TX3) (N := 18) hx hb hts hin_X3 hown hK hP 0 rfl rfl 6 (by decide) hf_PressedPlainsModel_25 (fun _ h9 => h9) rfl dX3_tell_113 ?_
          refine lv_iload_n hx hb dX3_tell_116 rfl (lv_at hl 2 rfl) ?_
          refine pq_iald hx hb hK hP 6 0 rfl rfl (2 * e) (by omega) (by decide) dX3_tell_117 ?_
          refine lv_goto (tgt := 127) hx hb dX3_tell_118 (by decide) ?_
          refine pq_top (mMax (B.2.1 (2 * e)) (B.2.1 (2 * e + 1))) (by unfold mMax; rw [if_neg c_11]) ?_
          exact J4 H locs ls hP hD hS hl
      refine lv_aload_n hx hb dX3_tell_74 rfl (lv_at hl 3 rfl) ?_
      refine va_get (D := D) (ci := 3) (v := .ref z5) (C := RX3) (T := TX3) (N := 18) hx hb hts hin_X3 hown hK hP 0 rfl rfl 5 (by decide) hf_PressedPlainsModel_22 (fun _ h9 => h9) rfl dX3_tell_75 ?_
      refine lv_iload_n hx hb dX3_tell_78 rfl (lv_at hl 1 rfl) ?_
      refine pq_iald hx hb hK hP 5 0 rfl rfl ((2 * e) + 1) (by omega) (by decide) dX3_tell_79 ?_
      refine lv_iload hx hb dX3_tell_80 (lv_at hl 0 rfl) ?_
      refine lv_icmp_ne (tgt := 94) hx hb dX3_tell_82 (by decide) (fun c_12 => ?_) (fun c_12 => ?_)
      · refine lv_iconst (v := 0) hx hb dX3_tell_94 (by decide) ?_
        refine pq_top (bMany (upd B.1 e (mTop B e)) B.2.2.1 (2 * e + 1) (mTop B e)) (by unfold bMany; rw [if_neg c_12]) ?_
        exact J3 H locs ls hP hD hS hl
      · refine lv_aload_n hx hb dX3_tell_85 rfl (lv_at hl 3 rfl) ?_
        refine va_get (D := D) (ci := 3) (v := .ref z7) (C := RX3) (T := TX3) (N := 18) hx hb hts hin_X3 hown hK hP 0 rfl rfl 7 (by decide) hf_PressedPlainsModel_28 (fun _ h9 => h9) rfl dX3_tell_86 ?_
        refine lv_iload_n hx hb dX3_tell_89 rfl (lv_at hl 1 rfl) ?_
        refine pq_iald hx hb hK hP 7 0 rfl rfl ((2 * e) + 1) (by omega) (by decide) dX3_tell_90 ?_
        refine lv_goto (tgt := 95) hx hb dX3_tell_91 (by decide) ?_
        refine pq_top (bMany (upd B.1 e (mTop B e)) B.2.2.1 (2 * e + 1) (mTop B e)) (by unfold bMany; rw [if_pos c_12]) ?_
        exact J3 H locs ls hP hD hS hl
    refine lv_aload_n hx hb dX3_tell_53 rfl (lv_at hl 3 rfl) ?_
    refine va_get (D := D) (ci := 3) (v := .ref z5) (C := RX3) (T := TX3) (N := 18) hx hb hts hin_X3 hown hK hP 0 rfl rfl 5 (by decide) hf_PressedPlainsModel_22 (fun _ h9 => h9) rfl dX3_tell_54 ?_
    refine lv_iload_n hx hb dX3_tell_57 rfl (lv_at hl 2 rfl) ?_
    refine pq_iald hx hb hK hP 5 0 rfl rfl (2 * e) (by omega) (by decide) dX3_tell_58 ?_
    refine lv_iload hx hb dX3_tell_59 (lv_at hl 0 rfl) ?_
    refine lv_icmp_ne (tgt := 73) hx hb dX3_tell_61 (by decide) (fun c_13 => ?_) (fun c_13 => ?_)
    · refine lv_iconst (v := 0) hx hb dX3_tell_73 (by decide) ?_
      refine pq_top (bMany (upd B.1 e (mTop B e)) B.2.2.1 (2 * e) (mTop B e)) (by unfold bMany; rw [if_neg c_13]) ?_
      exact J2 H locs ls hP hD hS hl
    · refine lv_aload_n hx hb dX3_tell_64 rfl (lv_at hl 3 rfl) ?_
      refine va_get (D := D) (ci := 3) (v := .ref z7) (C := RX3) (T := TX3) (N := 18) hx hb hts hin_X3 hown hK hP 0 rfl rfl 7 (by decide) hf_PressedPlainsModel_28 (fun _ h9 => h9) rfl dX3_tell_65 ?_
      refine lv_iload_n hx hb dX3_tell_68 rfl (lv_at hl 2 rfl) ?_
      refine pq_iald hx hb hK hP 7 0 rfl rfl (2 * e) (by omega) (by decide) dX3_tell_69 ?_
      refine lv_goto (tgt := 74) hx hb dX3_tell_70 (by decide) ?_
      refine pq_top (bMany (upd B.1 e (mTop B e)) B.2.2.1 (2 * e) (mTop B e)) (by unfold bMany; rw [if_pos c_13]) ?_
      exact J2 H locs ls hP hD hS hl
  refine lv_aload_n hx hb dX3_tell_8 rfl (lv_at hl 2 rfl) ?_
  refine va_get (D := D) (ci := 3) (v := .ref z5) (C := RX3) (T := TX3) (N := 18) hx hb hts hin_X3 hown hK hP 0 rfl rfl 5 (by decide) hf_PressedPlainsModel_22 (fun _ h9 => h9) rfl dX3_tell_9 ?_
  refine lv_iload_n hx hb dX3_tell_12 rfl (lv_at hl 1 rfl) ?_
  refine pq_iald hx hb hK hP 5 0 rfl rfl (2 * e) (by omega) (by decide) dX3_tell_13 ?_
  refine lv_aload_n hx hb dX3_tell_14 rfl (lv_at hl 2 rfl) ?_
  refine va_get (D := D) (ci := 3) (v := .ref z5) (C := RX3) (T := TX3) (N := 18) hx hb hts hin_X3 hown hK hP 0 rfl rfl 5 (by decide) hf_PressedPlainsModel_22 (fun _ h9 => h9) rfl dX3_tell_15 ?_
  refine lv_iload_n hx hb dX3_tell_18 rfl (lv_at hl 0 rfl) ?_
  refine pq_iald hx hb hK hP 5 0 rfl rfl ((2 * e) + 1) (by omega) (by decide) dX3_tell_19 ?_
  refine lv_icmp_le (tgt := 32) hx hb dX3_tell_20 (by decide) (fun c_14 => ?_) (fun c_14 => ?_)
  · refine lv_aload_n hx hb dX3_tell_32 rfl (lv_at hl 2 rfl) ?_
    refine va_get (D := D) (ci := 3) (v := .ref z5) (C := RX3) (T := TX3) (N := 18) hx hb hts hin_X3 hown hK hP 0 rfl rfl 5 (by decide) hf_PressedPlainsModel_22 (fun _ h9 => h9) rfl dX3_tell_33 ?_
    refine lv_iload_n hx hb dX3_tell_36 rfl (lv_at hl 0 rfl) ?_
    refine pq_iald hx hb hK hP 5 0 rfl rfl ((2 * e) + 1) (by omega) (by decide) dX3_tell_37 ?_
    refine pq_top (mTop B e) (by unfold mTop mMax; rw [if_pos c_14]) ?_
    exact J1 H locs ls hP hD hS hl
  · refine lv_aload_n hx hb dX3_tell_23 rfl (lv_at hl 2 rfl) ?_
    refine va_get (D := D) (ci := 3) (v := .ref z5) (C := RX3) (T := TX3) (N := 18) hx hb hts hin_X3 hown hK hP 0 rfl rfl 5 (by decide) hf_PressedPlainsModel_22 (fun _ h9 => h9) rfl dX3_tell_24 ?_
    refine lv_iload_n hx hb dX3_tell_27 rfl (lv_at hl 1 rfl) ?_
    refine pq_iald hx hb hK hP 5 0 rfl rfl (2 * e) (by omega) (by decide) dX3_tell_28 ?_
    refine lv_goto (tgt := 38) hx hb dX3_tell_29 (by decide) ?_
    refine pq_top (mTop B e) (by unfold mTop mMax; rw [if_neg c_14]) ?_
    exact J1 H locs ls hP hD hS hl

set_option maxHeartbeats 4000000 in
set_option maxRecDepth 100000 in
theorem mX3_begins (l : Launch) (D : va_G) (cI : ClassId) (mo z1 z2 z3 z4 z5 z6 z7 z8 z9 : Nat) (col : Int32) (hs cs fi la : Nat → Int32) (B : BK) (td : Nat → Int32) (lf laid piled prs thr : Int32) : pq_M l yX3_begins wsX3_begins 0 0 0 0 D [(cI, .int)] pq_0 (mdW mo z1 z2 z3 z4 z5 z6 z7 z8 z9 cI col hs cs fi la B td lf laid piled prs thr) [.ref mo] (fun v w1 => v = none ∧ w1 = mdW mo z1 z2 z3 z4 z5 z6 z7 z8 z9 cI col hs cs fi la (bBegin B) (upd td 0 2) 1 laid piled prs thr) := by
  refine pq_enter (cc := cX3_begins) (maxL := 1) (ret := none) (by decide) rfl (Nat.le_of_ble_eq_true rfl) ?_
  intro p ev s m args below meth cd A ls Q H locs hx hb hr hml hts hown hlocks hnm hK hP hD hS hA hE hl hQ
  have hl : lv_has ls 1 [(0, .ref mo)] := hl
  have hP : va_P D vwCl [(mo, .inr (3, [.int col, .ref z1, .ref z2, .ref z3, .ref z4, .ref z5, .ref z6, .ref z7, .ref z8, .ref z9, .int lf, .int B.2.2.2.2.1, .int B.2.2.2.2.2.1, .int B.2.2.2.2.2.2, .int laid, .int piled, .int prs, .int thr])), (z1, .inl (cI, 64, .inl hs)), (z2, .inl (cI, 64, .inl cs)), (z3, .inl (cI, 128, .inl fi)), (z4, .inl (cI, 128, .inl la)), (z5, .inl (cI, 128, .inl B.1)), (z6, .inl (cI, 128, .inl B.2.1)), (z7, .inl (cI, 128, .inl B.2.2.1)), (z8, .inl (cI, 128, .inl B.2.2.2.1)), (z9, .inl (cI, 64, .inl td))] H := hP
  have hD : va_D A [(mo, .inr (3, [.int col, .ref z1, .ref z2, .ref z3, .ref z4, .ref z5, .ref z6, .ref z7, .ref z8, .ref z9, .int lf, .int B.2.2.2.2.1, .int B.2.2.2.2.2.1, .int B.2.2.2.2.2.2, .int laid, .int piled, .int prs, .int thr])), (z1, .inl (cI, 64, .inl hs)), (z2, .inl (cI, 64, .inl cs)), (z3, .inl (cI, 128, .inl fi)), (z4, .inl (cI, 128, .inl la)), (z5, .inl (cI, 128, .inl B.1)), (z6, .inl (cI, 128, .inl B.2.1)), (z7, .inl (cI, 128, .inl B.2.2.1)), (z8, .inl (cI, 128, .inl B.2.2.2.1)), (z9, .inl (cI, 64, .inl td))] := hD
  have hin_X3 : ∀ w ∈ wsX30, w ∈ wsX3_begins := by decide +kernel
  have hf_PressedPlainsModel_52 := hts (.fieldLink RX3 52 "PressedPlainsModel" "visits" "I") (by decide +kernel)
  have hf_PressedPlainsModel_58 := hts (.fieldLink RX3 58 "PressedPlainsModel" "calls" "I") (by decide +kernel)
  have hf_PressedPlainsModel_77 := hts (.fieldLink RX3 77 "PressedPlainsModel" "left" "I") (by decide +kernel)
  have hf_PressedPlainsModel_34 := hts (.fieldLink RX3 34 "PressedPlainsModel" "todo" "[I") (by decide +kernel)
  refine lv_aload_n hx hb dX3_begins_0 rfl (lv_at hl 0 rfl) ?_
  refine lv_iconst (v := 0) hx hb dX3_begins_1 (by decide) ?_
  refine va_put (D := D) (ci := 3) (v := .int 0) (ty := .int) (C := RX3) (T := TX3) (N := 18) hx hb hts hin_X3 tyX3 tyX3_ok nmX3 hown hK hP hD hS 0 rfl rfl 11 (by decide) hf_PressedPlainsModel_52 (fun _ h9 => h9) rfl (by decide +kernel) rfl rfl (Nat.le_of_ble_eq_true rfl) dX3_begins_2 (fun H locs hP hD hS => ?_)
  have hP : va_P D vwCl [(mo, .inr (3, [.int col, .ref z1, .ref z2, .ref z3, .ref z4, .ref z5, .ref z6, .ref z7, .ref z8, .ref z9, .int lf, .int 0, .int B.2.2.2.2.2.1, .int B.2.2.2.2.2.2, .int laid, .int piled, .int prs, .int thr])), (z1, .inl (cI, 64, .inl hs)), (z2, .inl (cI, 64, .inl cs)), (z3, .inl (cI, 128, .inl fi)), (z4, .inl (cI, 128, .inl la)), (z5, .inl (cI, 128, .inl B.1)), (z6, .inl (cI, 128, .inl B.2.1)), (z7, .inl (cI, 128, .inl B.2.2.1)), (z8, .inl (cI, 128, .inl B.2.2.2.1)), (z9, .inl (cI, 64, .inl td))] H := hP
  have hD : va_D A [(mo, .inr (3, [.int col, .ref z1, .ref z2, .ref z3, .ref z4, .ref z5, .ref z6, .ref z7, .ref z8, .ref z9, .int lf, .int 0, .int B.2.2.2.2.2.1, .int B.2.2.2.2.2.2, .int laid, .int piled, .int prs, .int thr])), (z1, .inl (cI, 64, .inl hs)), (z2, .inl (cI, 64, .inl cs)), (z3, .inl (cI, 128, .inl fi)), (z4, .inl (cI, 128, .inl la)), (z5, .inl (cI, 128, .inl B.1)), (z6, .inl (cI, 128, .inl B.2.1)), (z7, .inl (cI, 128, .inl B.2.2.1)), (z8, .inl (cI, 128, .inl B.2.2.2.1)), (z9, .inl (cI, 64, .inl td))] := hD
  refine lv_aload_n hx hb dX3_begins_5 rfl (lv_at hl 0 rfl) ?_
  refine lv_dup hx hb dX3_begins_6 rfl ?_
  refine va_get (D := D) (ci := 3) (v := .int B.2.2.2.2.2.2) (C := RX3) (T := TX3) (N := 18) hx hb hts hin_X3 hown hK hP 0 rfl rfl 13 (by decide) hf_PressedPlainsModel_58 (fun _ h9 => h9) rfl dX3_begins_7 ?_
  refine lv_iconst (v := 1) hx hb dX3_begins_10 (by decide) ?_
  refine lv_iadd hx hb dX3_begins_11 ?_
  refine va_put (D := D) (ci := 3) (v := .int (B.2.2.2.2.2.2 + 1)) (ty := .int) (C := RX3) (T := TX3) (N := 18) hx hb hts hin_X3 tyX3 tyX3_ok nmX3 hown hK hP hD hS 0 rfl rfl 13 (by decide) hf_PressedPlainsModel_58 (fun _ h9 => h9) rfl (by decide +kernel) rfl rfl (Nat.le_of_ble_eq_true rfl) dX3_begins_12 (fun H locs hP hD hS => ?_)
  have hP : va_P D vwCl [(mo, .inr (3, [.int col, .ref z1, .ref z2, .ref z3, .ref z4, .ref z5, .ref z6, .ref z7, .ref z8, .ref z9, .int lf, .int 0, .int B.2.2.2.2.2.1, .int (B.2.2.2.2.2.2 + 1), .int laid, .int piled, .int prs, .int thr])), (z1, .inl (cI, 64, .inl hs)), (z2, .inl (cI, 64, .inl cs)), (z3, .inl (cI, 128, .inl fi)), (z4, .inl (cI, 128, .inl la)), (z5, .inl (cI, 128, .inl B.1)), (z6, .inl (cI, 128, .inl B.2.1)), (z7, .inl (cI, 128, .inl B.2.2.1)), (z8, .inl (cI, 128, .inl B.2.2.2.1)), (z9, .inl (cI, 64, .inl td))] H := hP
  have hD : va_D A [(mo, .inr (3, [.int col, .ref z1, .ref z2, .ref z3, .ref z4, .ref z5, .ref z6, .ref z7, .ref z8, .ref z9, .int lf, .int 0, .int B.2.2.2.2.2.1, .int (B.2.2.2.2.2.2 + 1), .int laid, .int piled, .int prs, .int thr])), (z1, .inl (cI, 64, .inl hs)), (z2, .inl (cI, 64, .inl cs)), (z3, .inl (cI, 128, .inl fi)), (z4, .inl (cI, 128, .inl la)), (z5, .inl (cI, 128, .inl B.1)), (z6, .inl (cI, 128, .inl B.2.1)), (z7, .inl (cI, 128, .inl B.2.2.1)), (z8, .inl (cI, 128, .inl B.2.2.2.1)), (z9, .inl (cI, 64, .inl td))] := hD
  refine lv_aload_n hx hb dX3_begins_15 rfl (lv_at hl 0 rfl) ?_
  refine lv_iconst (v := 1) hx hb dX3_begins_16 (by decide) ?_
  refine va_put (D := D) (ci := 3) (v := .int 1) (ty := .int) (C := RX3) (T := TX3) (N := 18) hx hb hts hin_X3 tyX3 tyX3_ok nmX3 hown hK hP hD hS 0 rfl rfl 10 (by decide) hf_PressedPlainsModel_77 (fun _ h9 => h9) rfl (by decide +kernel) rfl rfl (Nat.le_of_ble_eq_true rfl) dX3_begins_17 (fun H locs hP hD hS => ?_)
  have hP : va_P D vwCl [(mo, .inr (3, [.int col, .ref z1, .ref z2, .ref z3, .ref z4, .ref z5, .ref z6, .ref z7, .ref z8, .ref z9, .int 1, .int 0, .int B.2.2.2.2.2.1, .int (B.2.2.2.2.2.2 + 1), .int laid, .int piled, .int prs, .int thr])), (z1, .inl (cI, 64, .inl hs)), (z2, .inl (cI, 64, .inl cs)), (z3, .inl (cI, 128, .inl fi)), (z4, .inl (cI, 128, .inl la)), (z5, .inl (cI, 128, .inl B.1)), (z6, .inl (cI, 128, .inl B.2.1)), (z7, .inl (cI, 128, .inl B.2.2.1)), (z8, .inl (cI, 128, .inl B.2.2.2.1)), (z9, .inl (cI, 64, .inl td))] H := hP
  have hD : va_D A [(mo, .inr (3, [.int col, .ref z1, .ref z2, .ref z3, .ref z4, .ref z5, .ref z6, .ref z7, .ref z8, .ref z9, .int 1, .int 0, .int B.2.2.2.2.2.1, .int (B.2.2.2.2.2.2 + 1), .int laid, .int piled, .int prs, .int thr])), (z1, .inl (cI, 64, .inl hs)), (z2, .inl (cI, 64, .inl cs)), (z3, .inl (cI, 128, .inl fi)), (z4, .inl (cI, 128, .inl la)), (z5, .inl (cI, 128, .inl B.1)), (z6, .inl (cI, 128, .inl B.2.1)), (z7, .inl (cI, 128, .inl B.2.2.1)), (z8, .inl (cI, 128, .inl B.2.2.2.1)), (z9, .inl (cI, 64, .inl td))] := hD
  refine lv_aload_n hx hb dX3_begins_20 rfl (lv_at hl 0 rfl) ?_
  refine va_get (D := D) (ci := 3) (v := .ref z9) (C := RX3) (T := TX3) (N := 18) hx hb hts hin_X3 hown hK hP 0 rfl rfl 9 (by decide) hf_PressedPlainsModel_34 (fun _ h9 => h9) rfl dX3_begins_21 ?_
  refine lv_iconst (v := 0) hx hb dX3_begins_24 (by decide) ?_
  refine lv_iconst (v := 2) hx hb dX3_begins_25 (by decide) ?_
  refine pq_iast hx hb hK hP hD hS 9 0 rfl rfl 0 (by omega) (by decide) dX3_begins_26 (fun H locs hP hD hS => ?_)
  have hP : va_P D vwCl [(mo, .inr (3, [.int col, .ref z1, .ref z2, .ref z3, .ref z4, .ref z5, .ref z6, .ref z7, .ref z8, .ref z9, .int 1, .int 0, .int B.2.2.2.2.2.1, .int (B.2.2.2.2.2.2 + 1), .int laid, .int piled, .int prs, .int thr])), (z1, .inl (cI, 64, .inl hs)), (z2, .inl (cI, 64, .inl cs)), (z3, .inl (cI, 128, .inl fi)), (z4, .inl (cI, 128, .inl la)), (z5, .inl (cI, 128, .inl B.1)), (z6, .inl (cI, 128, .inl B.2.1)), (z7, .inl (cI, 128, .inl B.2.2.1)), (z8, .inl (cI, 128, .inl B.2.2.2.1)), (z9, .inl (cI, 64, .inl (upd td 0 2)))] H := hP
  have hD : va_D A [(mo, .inr (3, [.int col, .ref z1, .ref z2, .ref z3, .ref z4, .ref z5, .ref z6, .ref z7, .ref z8, .ref z9, .int 1, .int 0, .int B.2.2.2.2.2.1, .int (B.2.2.2.2.2.2 + 1), .int laid, .int piled, .int prs, .int thr])), (z1, .inl (cI, 64, .inl hs)), (z2, .inl (cI, 64, .inl cs)), (z3, .inl (cI, 128, .inl fi)), (z4, .inl (cI, 128, .inl la)), (z5, .inl (cI, 128, .inl B.1)), (z6, .inl (cI, 128, .inl B.2.1)), (z7, .inl (cI, 128, .inl B.2.2.1)), (z8, .inl (cI, 128, .inl B.2.2.2.1)), (z9, .inl (cI, 64, .inl (upd td 0 2)))] := hD
  exact pq_vret hQ hx hb hr hlocks hK hS hP hD dX3_begins_27 (by omega) (by omega) (⟨rfl, rfl⟩)

set_option maxHeartbeats 4000000 in
set_option maxRecDepth 100000 in
theorem mX3_visited (l : Launch) (D : va_G) (cI : ClassId) (mo z1 z2 z3 z4 z5 z6 z7 z8 z9 : Nat) (col : Int32) (hs cs fi la : Nat → Int32) (B : BK) (td : Nat → Int32) (lf laid piled prs thr : Int32) : pq_M l yX3_visited wsX3_visited 0 0 0 0 D [(cI, .int)] pq_0 (mdW mo z1 z2 z3 z4 z5 z6 z7 z8 z9 cI col hs cs fi la B td lf laid piled prs thr) [.ref mo] (fun v w1 => v = none ∧ w1 = mdW mo z1 z2 z3 z4 z5 z6 z7 z8 z9 cI col hs cs fi la (bVisit B) td lf laid piled prs thr) := by
  refine pq_enter (cc := cX3_visited) (maxL := 1) (ret := none) (by decide) rfl (Nat.le_of_ble_eq_true rfl) ?_
  intro p ev s m args below meth cd A ls Q H locs hx hb hr hml hts hown hlocks hnm hK hP hD hS hA hE hl hQ
  have hl : lv_has ls 1 [(0, .ref mo)] := hl
  have hP : va_P D vwCl [(mo, .inr (3, [.int col, .ref z1, .ref z2, .ref z3, .ref z4, .ref z5, .ref z6, .ref z7, .ref z8, .ref z9, .int lf, .int B.2.2.2.2.1, .int B.2.2.2.2.2.1, .int B.2.2.2.2.2.2, .int laid, .int piled, .int prs, .int thr])), (z1, .inl (cI, 64, .inl hs)), (z2, .inl (cI, 64, .inl cs)), (z3, .inl (cI, 128, .inl fi)), (z4, .inl (cI, 128, .inl la)), (z5, .inl (cI, 128, .inl B.1)), (z6, .inl (cI, 128, .inl B.2.1)), (z7, .inl (cI, 128, .inl B.2.2.1)), (z8, .inl (cI, 128, .inl B.2.2.2.1)), (z9, .inl (cI, 64, .inl td))] H := hP
  have hD : va_D A [(mo, .inr (3, [.int col, .ref z1, .ref z2, .ref z3, .ref z4, .ref z5, .ref z6, .ref z7, .ref z8, .ref z9, .int lf, .int B.2.2.2.2.1, .int B.2.2.2.2.2.1, .int B.2.2.2.2.2.2, .int laid, .int piled, .int prs, .int thr])), (z1, .inl (cI, 64, .inl hs)), (z2, .inl (cI, 64, .inl cs)), (z3, .inl (cI, 128, .inl fi)), (z4, .inl (cI, 128, .inl la)), (z5, .inl (cI, 128, .inl B.1)), (z6, .inl (cI, 128, .inl B.2.1)), (z7, .inl (cI, 128, .inl B.2.2.1)), (z8, .inl (cI, 128, .inl B.2.2.2.1)), (z9, .inl (cI, 64, .inl td))] := hD
  have hin_X3 : ∀ w ∈ wsX30, w ∈ wsX3_visited := by decide +kernel
  have hf_PressedPlainsModel_52 := hts (.fieldLink RX3 52 "PressedPlainsModel" "visits" "I") (by decide +kernel)
  have hf_PressedPlainsModel_55 := hts (.fieldLink RX3 55 "PressedPlainsModel" "allVisits" "I") (by decide +kernel)
  refine lv_aload_n hx hb dX3_visited_0 rfl (lv_at hl 0 rfl) ?_
  refine lv_dup hx hb dX3_visited_1 rfl ?_
  refine va_get (D := D) (ci := 3) (v := .int B.2.2.2.2.1) (C := RX3) (T := TX3) (N := 18) hx hb hts hin_X3 hown hK hP 0 rfl rfl 11 (by decide) hf_PressedPlainsModel_52 (fun _ h9 => h9) rfl dX3_visited_2 ?_
  refine lv_iconst (v := 1) hx hb dX3_visited_5 (by decide) ?_
  refine lv_iadd hx hb dX3_visited_6 ?_
  refine va_put (D := D) (ci := 3) (v := .int (B.2.2.2.2.1 + 1)) (ty := .int) (C := RX3) (T := TX3) (N := 18) hx hb hts hin_X3 tyX3 tyX3_ok nmX3 hown hK hP hD hS 0 rfl rfl 11 (by decide) hf_PressedPlainsModel_52 (fun _ h9 => h9) rfl (by decide +kernel) rfl rfl (Nat.le_of_ble_eq_true rfl) dX3_visited_7 (fun H locs hP hD hS => ?_)
  have hP : va_P D vwCl [(mo, .inr (3, [.int col, .ref z1, .ref z2, .ref z3, .ref z4, .ref z5, .ref z6, .ref z7, .ref z8, .ref z9, .int lf, .int (B.2.2.2.2.1 + 1), .int B.2.2.2.2.2.1, .int B.2.2.2.2.2.2, .int laid, .int piled, .int prs, .int thr])), (z1, .inl (cI, 64, .inl hs)), (z2, .inl (cI, 64, .inl cs)), (z3, .inl (cI, 128, .inl fi)), (z4, .inl (cI, 128, .inl la)), (z5, .inl (cI, 128, .inl B.1)), (z6, .inl (cI, 128, .inl B.2.1)), (z7, .inl (cI, 128, .inl B.2.2.1)), (z8, .inl (cI, 128, .inl B.2.2.2.1)), (z9, .inl (cI, 64, .inl td))] H := hP
  have hD : va_D A [(mo, .inr (3, [.int col, .ref z1, .ref z2, .ref z3, .ref z4, .ref z5, .ref z6, .ref z7, .ref z8, .ref z9, .int lf, .int (B.2.2.2.2.1 + 1), .int B.2.2.2.2.2.1, .int B.2.2.2.2.2.2, .int laid, .int piled, .int prs, .int thr])), (z1, .inl (cI, 64, .inl hs)), (z2, .inl (cI, 64, .inl cs)), (z3, .inl (cI, 128, .inl fi)), (z4, .inl (cI, 128, .inl la)), (z5, .inl (cI, 128, .inl B.1)), (z6, .inl (cI, 128, .inl B.2.1)), (z7, .inl (cI, 128, .inl B.2.2.1)), (z8, .inl (cI, 128, .inl B.2.2.2.1)), (z9, .inl (cI, 64, .inl td))] := hD
  refine lv_aload_n hx hb dX3_visited_10 rfl (lv_at hl 0 rfl) ?_
  refine lv_dup hx hb dX3_visited_11 rfl ?_
  refine va_get (D := D) (ci := 3) (v := .int B.2.2.2.2.2.1) (C := RX3) (T := TX3) (N := 18) hx hb hts hin_X3 hown hK hP 0 rfl rfl 12 (by decide) hf_PressedPlainsModel_55 (fun _ h9 => h9) rfl dX3_visited_12 ?_
  refine lv_iconst (v := 1) hx hb dX3_visited_15 (by decide) ?_
  refine lv_iadd hx hb dX3_visited_16 ?_
  refine va_put (D := D) (ci := 3) (v := .int (B.2.2.2.2.2.1 + 1)) (ty := .int) (C := RX3) (T := TX3) (N := 18) hx hb hts hin_X3 tyX3 tyX3_ok nmX3 hown hK hP hD hS 0 rfl rfl 12 (by decide) hf_PressedPlainsModel_55 (fun _ h9 => h9) rfl (by decide +kernel) rfl rfl (Nat.le_of_ble_eq_true rfl) dX3_visited_17 (fun H locs hP hD hS => ?_)
  have hP : va_P D vwCl [(mo, .inr (3, [.int col, .ref z1, .ref z2, .ref z3, .ref z4, .ref z5, .ref z6, .ref z7, .ref z8, .ref z9, .int lf, .int (B.2.2.2.2.1 + 1), .int (B.2.2.2.2.2.1 + 1), .int B.2.2.2.2.2.2, .int laid, .int piled, .int prs, .int thr])), (z1, .inl (cI, 64, .inl hs)), (z2, .inl (cI, 64, .inl cs)), (z3, .inl (cI, 128, .inl fi)), (z4, .inl (cI, 128, .inl la)), (z5, .inl (cI, 128, .inl B.1)), (z6, .inl (cI, 128, .inl B.2.1)), (z7, .inl (cI, 128, .inl B.2.2.1)), (z8, .inl (cI, 128, .inl B.2.2.2.1)), (z9, .inl (cI, 64, .inl td))] H := hP
  have hD : va_D A [(mo, .inr (3, [.int col, .ref z1, .ref z2, .ref z3, .ref z4, .ref z5, .ref z6, .ref z7, .ref z8, .ref z9, .int lf, .int (B.2.2.2.2.1 + 1), .int (B.2.2.2.2.2.1 + 1), .int B.2.2.2.2.2.2, .int laid, .int piled, .int prs, .int thr])), (z1, .inl (cI, 64, .inl hs)), (z2, .inl (cI, 64, .inl cs)), (z3, .inl (cI, 128, .inl fi)), (z4, .inl (cI, 128, .inl la)), (z5, .inl (cI, 128, .inl B.1)), (z6, .inl (cI, 128, .inl B.2.1)), (z7, .inl (cI, 128, .inl B.2.2.1)), (z8, .inl (cI, 128, .inl B.2.2.2.1)), (z9, .inl (cI, 64, .inl td))] := hD
  exact pq_vret hQ hx hb hr hlocks hK hS hP hD dX3_visited_20 (by omega) (by omega) (⟨rfl, rfl⟩)

set_option maxHeartbeats 4000000 in
set_option maxRecDepth 100000 in
theorem mX3_goesBelow1 (l : Launch) (D : va_G) (cI : ClassId) (mo z1 z2 z3 z4 z5 z6 z7 z8 z9 : Nat) (col : Int32) (hs cs fi la : Nat → Int32) (B : BK) (td : Nat → Int32) (lf laid piled prs thr : Int32) (e L : Nat) (he : e < 64) (hL : L + 3 ≤ 64) : pq_M l yX3_goesBelow wsX3_goesBelow 2 44 0 0 D [(cI, .int)] pq_0 (mdW mo z1 z2 z3 z4 z5 z6 z7 z8 z9 cI col hs cs fi la B td (nI L) laid piled prs thr) [.ref mo, .int (nI e), .int 1] (fun v w1 => v = none ∧ w1 = mdW mo z1 z2 z3 z4 z5 z6 z7 z8 z9 cI col hs cs fi la (mCatch2 B e) (upd (upd (upd td L (nI (2 * e + 1))) (L + 1) (nI (2 * (2 * e + 1)))) (L + 2) (nI (2 * (2 * e)))) (nI (L + 3)) laid piled prs thr) := by
  refine pq_enter (cc := cX3_goesBelow) (maxL := 3) (ret := none) (by decide) rfl (Nat.le_of_ble_eq_true rfl) ?_
  intro p ev s m args below meth cd A ls Q H locs hx hb hr hml hts hown hlocks hnm hK hP hD hS hA hE hl hQ
  have hl : lv_has ls 3 [(0, .ref mo), (1, .int (nI e)), (2, .int 1)] := hl
  have hP : va_P D vwCl [(mo, .inr (3, [.int col, .ref z1, .ref z2, .ref z3, .ref z4, .ref z5, .ref z6, .ref z7, .ref z8, .ref z9, .int (nI L), .int B.2.2.2.2.1, .int B.2.2.2.2.2.1, .int B.2.2.2.2.2.2, .int laid, .int piled, .int prs, .int thr])), (z1, .inl (cI, 64, .inl hs)), (z2, .inl (cI, 64, .inl cs)), (z3, .inl (cI, 128, .inl fi)), (z4, .inl (cI, 128, .inl la)), (z5, .inl (cI, 128, .inl B.1)), (z6, .inl (cI, 128, .inl B.2.1)), (z7, .inl (cI, 128, .inl B.2.2.1)), (z8, .inl (cI, 128, .inl B.2.2.2.1)), (z9, .inl (cI, 64, .inl td))] H := hP
  have hD : va_D A [(mo, .inr (3, [.int col, .ref z1, .ref z2, .ref z3, .ref z4, .ref z5, .ref z6, .ref z7, .ref z8, .ref z9, .int (nI L), .int B.2.2.2.2.1, .int B.2.2.2.2.2.1, .int B.2.2.2.2.2.2, .int laid, .int piled, .int prs, .int thr])), (z1, .inl (cI, 64, .inl hs)), (z2, .inl (cI, 64, .inl cs)), (z3, .inl (cI, 128, .inl fi)), (z4, .inl (cI, 128, .inl la)), (z5, .inl (cI, 128, .inl B.1)), (z6, .inl (cI, 128, .inl B.2.1)), (z7, .inl (cI, 128, .inl B.2.2.1)), (z8, .inl (cI, 128, .inl B.2.2.2.1)), (z9, .inl (cI, 64, .inl td))] := hD
  have hin_X3 : ∀ w ∈ wsX30, w ∈ wsX3_goesBelow := by decide +kernel
  have hf_PressedPlainsModel_34 := hts (.fieldLink RX3 34 "PressedPlainsModel" "todo" "[I") (by decide +kernel)
  have hf_PressedPlainsModel_77 := hts (.fieldLink RX3 77 "PressedPlainsModel" "left" "I") (by decide +kernel)
  refine lv_aload_n hx hb dX3_goesBelow_0 rfl (lv_at hl 0 rfl) ?_
  refine lv_iload_n hx hb dX3_goesBelow_1 rfl (lv_at hl 1 rfl) ?_
  refine pq_callV (wr := []) (own := RX3) (nL := 3) (q0 := 0) (ci := 3) [0, 1, 2, 3, 4, 5, 6, 7, 8, 9] [] [.int (nI e)] (mX3_catchUp l D cI mo z1 z2 z3 z4 z5 z6 z7 z8 z9 col hs cs fi la B td (nI L) laid piled prs thr e (by omega)) ⟨hx, hb, hml, hown, hts⟩ (cwV 1 hts gX3_goesBelow_X3_catchUp rfl rfl rfl (by decide +kernel) ⟨by dsimp only [pq_R]; omega, by dsimp only [pq_R]; omega⟩) pq_bl0 (fun _ _ _ => trivial) hK hP hD hS hA rfl (by decide) rfl (by decide) (by decide) rfl rfl rfl rfl hl.1 rfl (Nat.le_of_ble_eq_true rfl) dX3_goesBelow_2 ⟨by dsimp only [pq_R]; omega, by dsimp only [pq_R]; omega⟩ (fun v w1 H locs hq hP hD hS hz => ?_)
  obtain ⟨rfl, rfl⟩ := hq
  obtain ⟨B_1, hB_1⟩ : ∃ zz, zz = mCatch2 B e := ⟨_, rfl⟩
  rw [← hB_1] at hP hD
  have hP : va_P D vwCl [(mo, .inr (3, [.int col, .ref z1, .ref z2, .ref z3, .ref z4, .ref z5, .ref z6, .ref z7, .ref z8, .ref z9, .int (nI L), .int B_1.2.2.2.2.1, .int B_1.2.2.2.2.2.1, .int B_1.2.2.2.2.2.2, .int laid, .int piled, .int prs, .int thr])), (z1, .inl (cI, 64, .inl hs)), (z2, .inl (cI, 64, .inl cs)), (z3, .inl (cI, 128, .inl fi)), (z4, .inl (cI, 128, .inl la)), (z5, .inl (cI, 128, .inl B_1.1)), (z6, .inl (cI, 128, .inl B_1.2.1)), (z7, .inl (cI, 128, .inl B_1.2.2.1)), (z8, .inl (cI, 128, .inl B_1.2.2.2.1)), (z9, .inl (cI, 64, .inl td))] H := hP
  have hD : va_D A [(mo, .inr (3, [.int col, .ref z1, .ref z2, .ref z3, .ref z4, .ref z5, .ref z6, .ref z7, .ref z8, .ref z9, .int (nI L), .int B_1.2.2.2.2.1, .int B_1.2.2.2.2.2.1, .int B_1.2.2.2.2.2.2, .int laid, .int piled, .int prs, .int thr])), (z1, .inl (cI, 64, .inl hs)), (z2, .inl (cI, 64, .inl cs)), (z3, .inl (cI, 128, .inl fi)), (z4, .inl (cI, 128, .inl la)), (z5, .inl (cI, 128, .inl B_1.1)), (z6, .inl (cI, 128, .inl B_1.2.1)), (z7, .inl (cI, 128, .inl B_1.2.2.1)), (z8, .inl (cI, 128, .inl B_1.2.2.2.1)), (z9, .inl (cI, 64, .inl td))] := hD
  refine W.eq (g2 := F0 m 5 ls []) rfl ?_
  refine lv_iload_n hx hb dX3_goesBelow_5 rfl (lv_at hl 2 rfl) ?_
  refine lv_if_eq (tgt := 33) hx hb dX3_goesBelow_6 (by decide) (fun c9 => absurd c9 (by decide)) (fun _ => ?_)
  refine lv_aload_n hx hb dX3_goesBelow_9 rfl (lv_at hl 0 rfl) ?_
  refine va_get (D := D) (ci := 3) (v := .ref z9) (C := RX3) (T := TX3) (N := 18) hx hb hts hin_X3 hown hK hP 0 rfl rfl 9 (by decide) hf_PressedPlainsModel_34 (fun _ h9 => h9) rfl dX3_goesBelow_10 ?_
  refine lv_aload_n hx hb dX3_goesBelow_13 rfl (lv_at hl 0 rfl) ?_
  refine va_get (D := D) (ci := 3) (v := .int (nI L)) (C := RX3) (T := TX3) (N := 18) hx hb hts hin_X3 hown hK hP 0 rfl rfl 10 (by decide) hf_PressedPlainsModel_77 (fun _ h9 => h9) rfl dX3_goesBelow_14 ?_
  refine lv_iconst (v := 2) hx hb dX3_goesBelow_17 (by decide) ?_
  refine lv_iload_n hx hb dX3_goesBelow_18 rfl (lv_at hl 1 rfl) ?_
  refine lv_imul hx hb dX3_goesBelow_19 ?_
  refine pq_top (nI (2 * e)) (pk_mul 2 _) ?_
  refine lv_iconst (v := 1) hx hb dX3_goesBelow_20 (by decide) ?_
  refine lv_iadd hx hb dX3_goesBelow_21 ?_
  refine pq_top (nI ((2 * e) + 1)) (nI_1 _) ?_
  refine pq_iast hx hb hK hP hD hS 9 0 rfl rfl L (by omega) (by decide) dX3_goesBelow_22 (fun H locs hP hD hS => ?_)
  have hP : va_P D vwCl [(mo, .inr (3, [.int col, .ref z1, .ref z2, .ref z3, .ref z4, .ref z5, .ref z6, .ref z7, .ref z8, .ref z9, .int (nI L), .int B_1.2.2.2.2.1, .int B_1.2.2.2.2.2.1, .int B_1.2.2.2.2.2.2, .int laid, .int piled, .int prs, .int thr])), (z1, .inl (cI, 64, .inl hs)), (z2, .inl (cI, 64, .inl cs)), (z3, .inl (cI, 128, .inl fi)), (z4, .inl (cI, 128, .inl la)), (z5, .inl (cI, 128, .inl B_1.1)), (z6, .inl (cI, 128, .inl B_1.2.1)), (z7, .inl (cI, 128, .inl B_1.2.2.1)), (z8, .inl (cI, 128, .inl B_1.2.2.2.1)), (z9, .inl (cI, 64, .inl (upd td L (nI ((2 * e) + 1)))))] H := hP
  have hD : va_D A [(mo, .inr (3, [.int col, .ref z1, .ref z2, .ref z3, .ref z4, .ref z5, .ref z6, .ref z7, .ref z8, .ref z9, .int (nI L), .int B_1.2.2.2.2.1, .int B_1.2.2.2.2.2.1, .int B_1.2.2.2.2.2.2, .int laid, .int piled, .int prs, .int thr])), (z1, .inl (cI, 64, .inl hs)), (z2, .inl (cI, 64, .inl cs)), (z3, .inl (cI, 128, .inl fi)), (z4, .inl (cI, 128, .inl la)), (z5, .inl (cI, 128, .inl B_1.1)), (z6, .inl (cI, 128, .inl B_1.2.1)), (z7, .inl (cI, 128, .inl B_1.2.2.1)), (z8, .inl (cI, 128, .inl B_1.2.2.2.1)), (z9, .inl (cI, 64, .inl (upd td L (nI ((2 * e) + 1)))))] := hD
  refine lv_aload_n hx hb dX3_goesBelow_23 rfl (lv_at hl 0 rfl) ?_
  refine lv_dup hx hb dX3_goesBelow_24 rfl ?_
  refine va_get (D := D) (ci := 3) (v := .int (nI L)) (C := RX3) (T := TX3) (N := 18) hx hb hts hin_X3 hown hK hP 0 rfl rfl 10 (by decide) hf_PressedPlainsModel_77 (fun _ h9 => h9) rfl dX3_goesBelow_25 ?_
  refine lv_iconst (v := 1) hx hb dX3_goesBelow_28 (by decide) ?_
  refine lv_iadd hx hb dX3_goesBelow_29 ?_
  refine pq_top (nI (L + 1)) (nI_1 _) ?_
  refine va_put (D := D) (ci := 3) (v := .int (nI (L + 1))) (ty := .int) (C := RX3) (T := TX3) (N := 18) hx hb hts hin_X3 tyX3 tyX3_ok nmX3 hown hK hP hD hS 0 rfl rfl 10 (by decide) hf_PressedPlainsModel_77 (fun _ h9 => h9) rfl (by decide +kernel) rfl rfl (Nat.le_of_ble_eq_true rfl) dX3_goesBelow_30 (fun H locs hP hD hS => ?_)
  have hP : va_P D vwCl [(mo, .inr (3, [.int col, .ref z1, .ref z2, .ref z3, .ref z4, .ref z5, .ref z6, .ref z7, .ref z8, .ref z9, .int (nI (L + 1)), .int B_1.2.2.2.2.1, .int B_1.2.2.2.2.2.1, .int B_1.2.2.2.2.2.2, .int laid, .int piled, .int prs, .int thr])), (z1, .inl (cI, 64, .inl hs)), (z2, .inl (cI, 64, .inl cs)), (z3, .inl (cI, 128, .inl fi)), (z4, .inl (cI, 128, .inl la)), (z5, .inl (cI, 128, .inl B_1.1)), (z6, .inl (cI, 128, .inl B_1.2.1)), (z7, .inl (cI, 128, .inl B_1.2.2.1)), (z8, .inl (cI, 128, .inl B_1.2.2.2.1)), (z9, .inl (cI, 64, .inl (upd td L (nI ((2 * e) + 1)))))] H := hP
  have hD : va_D A [(mo, .inr (3, [.int col, .ref z1, .ref z2, .ref z3, .ref z4, .ref z5, .ref z6, .ref z7, .ref z8, .ref z9, .int (nI (L + 1)), .int B_1.2.2.2.2.1, .int B_1.2.2.2.2.2.1, .int B_1.2.2.2.2.2.2, .int laid, .int piled, .int prs, .int thr])), (z1, .inl (cI, 64, .inl hs)), (z2, .inl (cI, 64, .inl cs)), (z3, .inl (cI, 128, .inl fi)), (z4, .inl (cI, 128, .inl la)), (z5, .inl (cI, 128, .inl B_1.1)), (z6, .inl (cI, 128, .inl B_1.2.1)), (z7, .inl (cI, 128, .inl B_1.2.2.1)), (z8, .inl (cI, 128, .inl B_1.2.2.2.1)), (z9, .inl (cI, 64, .inl (upd td L (nI ((2 * e) + 1)))))] := hD
  refine lv_aload_n hx hb dX3_goesBelow_33 rfl (lv_at hl 0 rfl) ?_
  refine va_get (D := D) (ci := 3) (v := .ref z9) (C := RX3) (T := TX3) (N := 18) hx hb hts hin_X3 hown hK hP 0 rfl rfl 9 (by decide) hf_PressedPlainsModel_34 (fun _ h9 => h9) rfl dX3_goesBelow_34 ?_
  refine lv_aload_n hx hb dX3_goesBelow_37 rfl (lv_at hl 0 rfl) ?_
  refine va_get (D := D) (ci := 3) (v := .int (nI (L + 1))) (C := RX3) (T := TX3) (N := 18) hx hb hts hin_X3 hown hK hP 0 rfl rfl 10 (by decide) hf_PressedPlainsModel_77 (fun _ h9 => h9) rfl dX3_goesBelow_38 ?_
  refine lv_iconst (v := 2) hx hb dX3_goesBelow_41 (by decide) ?_
  refine lv_iconst (v := 2) hx hb dX3_goesBelow_42 (by decide) ?_
  refine lv_iload_n hx hb dX3_goesBelow_43 rfl (lv_at hl 1 rfl) ?_
  refine lv_imul hx hb dX3_goesBelow_44 ?_
  refine pq_top (nI (2 * e)) (pk_mul 2 _) ?_
  refine lv_iconst (v := 1) hx hb dX3_goesBelow_45 (by decide) ?_
  refine lv_iadd hx hb dX3_goesBelow_46 ?_
  refine pq_top (nI ((2 * e) + 1)) (nI_1 _) ?_
  refine lv_imul hx hb dX3_goesBelow_47 ?_
  refine pq_top (nI (2 * ((2 * e) + 1))) (pk_mul 2 _) ?_
  refine pq_iast hx hb hK hP hD hS 9 0 rfl rfl (L + 1) (by omega) (by decide) dX3_goesBelow_48 (fun H locs hP hD hS => ?_)
  have hP : va_P D vwCl [(mo, .inr (3, [.int col, .ref z1, .ref z2, .ref z3, .ref z4, .ref z5, .ref z6, .ref z7, .ref z8, .ref z9, .int (nI (L + 1)), .int B_1.2.2.2.2.1, .int B_1.2.2.2.2.2.1, .int B_1.2.2.2.2.2.2, .int laid, .int piled, .int prs, .int thr])), (z1, .inl (cI, 64, .inl hs)), (z2, .inl (cI, 64, .inl cs)), (z3, .inl (cI, 128, .inl fi)), (z4, .inl (cI, 128, .inl la)), (z5, .inl (cI, 128, .inl B_1.1)), (z6, .inl (cI, 128, .inl B_1.2.1)), (z7, .inl (cI, 128, .inl B_1.2.2.1)), (z8, .inl (cI, 128, .inl B_1.2.2.2.1)), (z9, .inl (cI, 64, .inl (upd (upd td L (nI ((2 * e) + 1))) (L + 1) (nI (2 * ((2 * e) + 1))))))] H := hP
  have hD : va_D A [(mo, .inr (3, [.int col, .ref z1, .ref z2, .ref z3, .ref z4, .ref z5, .ref z6, .ref z7, .ref z8, .ref z9, .int (nI (L + 1)), .int B_1.2.2.2.2.1, .int B_1.2.2.2.2.2.1, .int B_1.2.2.2.2.2.2, .int laid, .int piled, .int prs, .int thr])), (z1, .inl (cI, 64, .inl hs)), (z2, .inl (cI, 64, .inl cs)), (z3, .inl (cI, 128, .inl fi)), (z4, .inl (cI, 128, .inl la)), (z5, .inl (cI, 128, .inl B_1.1)), (z6, .inl (cI, 128, .inl B_1.2.1)), (z7, .inl (cI, 128, .inl B_1.2.2.1)), (z8, .inl (cI, 128, .inl B_1.2.2.2.1)), (z9, .inl (cI, 64, .inl (upd (upd td L (nI ((2 * e) + 1))) (L + 1) (nI (2 * ((2 * e) + 1))))))] := hD
  refine lv_aload_n hx hb dX3_goesBelow_49 rfl (lv_at hl 0 rfl) ?_
  refine va_get (D := D) (ci := 3) (v := .ref z9) (C := RX3) (T := TX3) (N := 18) hx hb hts hin_X3 hown hK hP 0 rfl rfl 9 (by decide) hf_PressedPlainsModel_34 (fun _ h9 => h9) rfl dX3_goesBelow_50 ?_
  refine lv_aload_n hx hb dX3_goesBelow_53 rfl (lv_at hl 0 rfl) ?_
  refine va_get (D := D) (ci := 3) (v := .int (nI (L + 1))) (C := RX3) (T := TX3) (N := 18) hx hb hts hin_X3 hown hK hP 0 rfl rfl 10 (by decide) hf_PressedPlainsModel_77 (fun _ h9 => h9) rfl dX3_goesBelow_54 ?_
  refine lv_iconst (v := 1) hx hb dX3_goesBelow_57 (by decide) ?_
  refine lv_iadd hx hb dX3_goesBelow_58 ?_
  refine pq_top (nI ((L + 1) + 1)) (nI_1 _) ?_
  refine lv_iconst (v := 2) hx hb dX3_goesBelow_59 (by decide) ?_
  refine lv_iconst (v := 2) hx hb dX3_goesBelow_60 (by decide) ?_
  refine lv_iload_n hx hb dX3_goesBelow_61 rfl (lv_at hl 1 rfl) ?_
  refine lv_imul hx hb dX3_goesBelow_62 ?_
  refine pq_top (nI (2 * e)) (pk_mul 2 _) ?_
  refine lv_imul hx hb dX3_goesBelow_63 ?_
  refine pq_top (nI (2 * (2 * e))) (pk_mul 2 _) ?_
  refine pq_iast hx hb hK hP hD hS 9 0 rfl rfl ((L + 1) + 1) (by omega) (by decide) dX3_goesBelow_64 (fun H locs hP hD hS => ?_)
  have hP : va_P D vwCl [(mo, .inr (3, [.int col, .ref z1, .ref z2, .ref z3, .ref z4, .ref z5, .ref z6, .ref z7, .ref z8, .ref z9, .int (nI (L + 1)), .int B_1.2.2.2.2.1, .int B_1.2.2.2.2.2.1, .int B_1.2.2.2.2.2.2, .int laid, .int piled, .int prs, .int thr])), (z1, .inl (cI, 64, .inl hs)), (z2, .inl (cI, 64, .inl cs)), (z3, .inl (cI, 128, .inl fi)), (z4, .inl (cI, 128, .inl la)), (z5, .inl (cI, 128, .inl B_1.1)), (z6, .inl (cI, 128, .inl B_1.2.1)), (z7, .inl (cI, 128, .inl B_1.2.2.1)), (z8, .inl (cI, 128, .inl B_1.2.2.2.1)), (z9, .inl (cI, 64, .inl (upd (upd (upd td L (nI ((2 * e) + 1))) (L + 1) (nI (2 * ((2 * e) + 1)))) ((L + 1) + 1) (nI (2 * (2 * e))))))] H := hP
  have hD : va_D A [(mo, .inr (3, [.int col, .ref z1, .ref z2, .ref z3, .ref z4, .ref z5, .ref z6, .ref z7, .ref z8, .ref z9, .int (nI (L + 1)), .int B_1.2.2.2.2.1, .int B_1.2.2.2.2.2.1, .int B_1.2.2.2.2.2.2, .int laid, .int piled, .int prs, .int thr])), (z1, .inl (cI, 64, .inl hs)), (z2, .inl (cI, 64, .inl cs)), (z3, .inl (cI, 128, .inl fi)), (z4, .inl (cI, 128, .inl la)), (z5, .inl (cI, 128, .inl B_1.1)), (z6, .inl (cI, 128, .inl B_1.2.1)), (z7, .inl (cI, 128, .inl B_1.2.2.1)), (z8, .inl (cI, 128, .inl B_1.2.2.2.1)), (z9, .inl (cI, 64, .inl (upd (upd (upd td L (nI ((2 * e) + 1))) (L + 1) (nI (2 * ((2 * e) + 1)))) ((L + 1) + 1) (nI (2 * (2 * e))))))] := hD
  refine lv_aload_n hx hb dX3_goesBelow_65 rfl (lv_at hl 0 rfl) ?_
  refine lv_dup hx hb dX3_goesBelow_66 rfl ?_
  refine va_get (D := D) (ci := 3) (v := .int (nI (L + 1))) (C := RX3) (T := TX3) (N := 18) hx hb hts hin_X3 hown hK hP 0 rfl rfl 10 (by decide) hf_PressedPlainsModel_77 (fun _ h9 => h9) rfl dX3_goesBelow_67 ?_
  refine lv_iconst (v := 2) hx hb dX3_goesBelow_70 (by decide) ?_
  refine lv_iadd hx hb dX3_goesBelow_71 ?_
  refine pq_top (nI ((L + 1) + 2)) (nI_add _ 2) ?_
  refine va_put (D := D) (ci := 3) (v := .int (nI ((L + 1) + 2))) (ty := .int) (C := RX3) (T := TX3) (N := 18) hx hb hts hin_X3 tyX3 tyX3_ok nmX3 hown hK hP hD hS 0 rfl rfl 10 (by decide) hf_PressedPlainsModel_77 (fun _ h9 => h9) rfl (by decide +kernel) rfl rfl (Nat.le_of_ble_eq_true rfl) dX3_goesBelow_72 (fun H locs hP hD hS => ?_)
  have hP : va_P D vwCl [(mo, .inr (3, [.int col, .ref z1, .ref z2, .ref z3, .ref z4, .ref z5, .ref z6, .ref z7, .ref z8, .ref z9, .int (nI ((L + 1) + 2)), .int B_1.2.2.2.2.1, .int B_1.2.2.2.2.2.1, .int B_1.2.2.2.2.2.2, .int laid, .int piled, .int prs, .int thr])), (z1, .inl (cI, 64, .inl hs)), (z2, .inl (cI, 64, .inl cs)), (z3, .inl (cI, 128, .inl fi)), (z4, .inl (cI, 128, .inl la)), (z5, .inl (cI, 128, .inl B_1.1)), (z6, .inl (cI, 128, .inl B_1.2.1)), (z7, .inl (cI, 128, .inl B_1.2.2.1)), (z8, .inl (cI, 128, .inl B_1.2.2.2.1)), (z9, .inl (cI, 64, .inl (upd (upd (upd td L (nI ((2 * e) + 1))) (L + 1) (nI (2 * ((2 * e) + 1)))) ((L + 1) + 1) (nI (2 * (2 * e))))))] H := hP
  have hD : va_D A [(mo, .inr (3, [.int col, .ref z1, .ref z2, .ref z3, .ref z4, .ref z5, .ref z6, .ref z7, .ref z8, .ref z9, .int (nI ((L + 1) + 2)), .int B_1.2.2.2.2.1, .int B_1.2.2.2.2.2.1, .int B_1.2.2.2.2.2.2, .int laid, .int piled, .int prs, .int thr])), (z1, .inl (cI, 64, .inl hs)), (z2, .inl (cI, 64, .inl cs)), (z3, .inl (cI, 128, .inl fi)), (z4, .inl (cI, 128, .inl la)), (z5, .inl (cI, 128, .inl B_1.1)), (z6, .inl (cI, 128, .inl B_1.2.1)), (z7, .inl (cI, 128, .inl B_1.2.2.1)), (z8, .inl (cI, 128, .inl B_1.2.2.2.1)), (z9, .inl (cI, 64, .inl (upd (upd (upd td L (nI ((2 * e) + 1))) (L + 1) (nI (2 * ((2 * e) + 1)))) ((L + 1) + 1) (nI (2 * (2 * e))))))] := hD
  exact pq_vret hQ hx hb hr hlocks hK hS hP hD dX3_goesBelow_75 (by omega) (by omega) (⟨rfl, by subst hB_1; rfl⟩)

set_option maxHeartbeats 4000000 in
set_option maxRecDepth 100000 in
theorem mX3_goesBelow0 (l : Launch) (D : va_G) (cI : ClassId) (mo z1 z2 z3 z4 z5 z6 z7 z8 z9 : Nat) (col : Int32) (hs cs fi la : Nat → Int32) (B : BK) (td : Nat → Int32) (lf laid piled prs thr : Int32) (e L : Nat) (he : e < 64) (hL : L + 2 ≤ 64) : pq_M l yX3_goesBelow wsX3_goesBelow 2 44 0 0 D [(cI, .int)] pq_0 (mdW mo z1 z2 z3 z4 z5 z6 z7 z8 z9 cI col hs cs fi la B td (nI L) laid piled prs thr) [.ref mo, .int (nI e), .int 0] (fun v w1 => v = none ∧ w1 = mdW mo z1 z2 z3 z4 z5 z6 z7 z8 z9 cI col hs cs fi la (mCatch2 B e) (upd (upd td L (nI (2 * (2 * e + 1)))) (L + 1) (nI (2 * (2 * e)))) (nI (L + 2)) laid piled prs thr) := by
  refine pq_enter (cc := cX3_goesBelow) (maxL := 3) (ret := none) (by decide) rfl (Nat.le_of_ble_eq_true rfl) ?_
  intro p ev s m args below meth cd A ls Q H locs hx hb hr hml hts hown hlocks hnm hK hP hD hS hA hE hl hQ
  have hl : lv_has ls 3 [(0, .ref mo), (1, .int (nI e)), (2, .int 0)] := hl
  have hP : va_P D vwCl [(mo, .inr (3, [.int col, .ref z1, .ref z2, .ref z3, .ref z4, .ref z5, .ref z6, .ref z7, .ref z8, .ref z9, .int (nI L), .int B.2.2.2.2.1, .int B.2.2.2.2.2.1, .int B.2.2.2.2.2.2, .int laid, .int piled, .int prs, .int thr])), (z1, .inl (cI, 64, .inl hs)), (z2, .inl (cI, 64, .inl cs)), (z3, .inl (cI, 128, .inl fi)), (z4, .inl (cI, 128, .inl la)), (z5, .inl (cI, 128, .inl B.1)), (z6, .inl (cI, 128, .inl B.2.1)), (z7, .inl (cI, 128, .inl B.2.2.1)), (z8, .inl (cI, 128, .inl B.2.2.2.1)), (z9, .inl (cI, 64, .inl td))] H := hP
  have hD : va_D A [(mo, .inr (3, [.int col, .ref z1, .ref z2, .ref z3, .ref z4, .ref z5, .ref z6, .ref z7, .ref z8, .ref z9, .int (nI L), .int B.2.2.2.2.1, .int B.2.2.2.2.2.1, .int B.2.2.2.2.2.2, .int laid, .int piled, .int prs, .int thr])), (z1, .inl (cI, 64, .inl hs)), (z2, .inl (cI, 64, .inl cs)), (z3, .inl (cI, 128, .inl fi)), (z4, .inl (cI, 128, .inl la)), (z5, .inl (cI, 128, .inl B.1)), (z6, .inl (cI, 128, .inl B.2.1)), (z7, .inl (cI, 128, .inl B.2.2.1)), (z8, .inl (cI, 128, .inl B.2.2.2.1)), (z9, .inl (cI, 64, .inl td))] := hD
  have hin_X3 : ∀ w ∈ wsX30, w ∈ wsX3_goesBelow := by decide +kernel
  have hf_PressedPlainsModel_34 := hts (.fieldLink RX3 34 "PressedPlainsModel" "todo" "[I") (by decide +kernel)
  have hf_PressedPlainsModel_77 := hts (.fieldLink RX3 77 "PressedPlainsModel" "left" "I") (by decide +kernel)
  refine lv_aload_n hx hb dX3_goesBelow_0 rfl (lv_at hl 0 rfl) ?_
  refine lv_iload_n hx hb dX3_goesBelow_1 rfl (lv_at hl 1 rfl) ?_
  refine pq_callV (wr := []) (own := RX3) (nL := 3) (q0 := 0) (ci := 3) [0, 1, 2, 3, 4, 5, 6, 7, 8, 9] [] [.int (nI e)] (mX3_catchUp l D cI mo z1 z2 z3 z4 z5 z6 z7 z8 z9 col hs cs fi la B td (nI L) laid piled prs thr e (by omega)) ⟨hx, hb, hml, hown, hts⟩ (cwV 1 hts gX3_goesBelow_X3_catchUp rfl rfl rfl (by decide +kernel) ⟨by dsimp only [pq_R]; omega, by dsimp only [pq_R]; omega⟩) pq_bl0 (fun _ _ _ => trivial) hK hP hD hS hA rfl (by decide) rfl (by decide) (by decide) rfl rfl rfl rfl hl.1 rfl (Nat.le_of_ble_eq_true rfl) dX3_goesBelow_2 ⟨by dsimp only [pq_R]; omega, by dsimp only [pq_R]; omega⟩ (fun v w1 H locs hq hP hD hS hz => ?_)
  obtain ⟨rfl, rfl⟩ := hq
  obtain ⟨B_1, hB_1⟩ : ∃ zz, zz = mCatch2 B e := ⟨_, rfl⟩
  rw [← hB_1] at hP hD
  have hP : va_P D vwCl [(mo, .inr (3, [.int col, .ref z1, .ref z2, .ref z3, .ref z4, .ref z5, .ref z6, .ref z7, .ref z8, .ref z9, .int (nI L), .int B_1.2.2.2.2.1, .int B_1.2.2.2.2.2.1, .int B_1.2.2.2.2.2.2, .int laid, .int piled, .int prs, .int thr])), (z1, .inl (cI, 64, .inl hs)), (z2, .inl (cI, 64, .inl cs)), (z3, .inl (cI, 128, .inl fi)), (z4, .inl (cI, 128, .inl la)), (z5, .inl (cI, 128, .inl B_1.1)), (z6, .inl (cI, 128, .inl B_1.2.1)), (z7, .inl (cI, 128, .inl B_1.2.2.1)), (z8, .inl (cI, 128, .inl B_1.2.2.2.1)), (z9, .inl (cI, 64, .inl td))] H := hP
  have hD : va_D A [(mo, .inr (3, [.int col, .ref z1, .ref z2, .ref z3, .ref z4, .ref z5, .ref z6, .ref z7, .ref z8, .ref z9, .int (nI L), .int B_1.2.2.2.2.1, .int B_1.2.2.2.2.2.1, .int B_1.2.2.2.2.2.2, .int laid, .int piled, .int prs, .int thr])), (z1, .inl (cI, 64, .inl hs)), (z2, .inl (cI, 64, .inl cs)), (z3, .inl (cI, 128, .inl fi)), (z4, .inl (cI, 128, .inl la)), (z5, .inl (cI, 128, .inl B_1.1)), (z6, .inl (cI, 128, .inl B_1.2.1)), (z7, .inl (cI, 128, .inl B_1.2.2.1)), (z8, .inl (cI, 128, .inl B_1.2.2.2.1)), (z9, .inl (cI, 64, .inl td))] := hD
  refine W.eq (g2 := F0 m 5 ls []) rfl ?_
  refine lv_iload_n hx hb dX3_goesBelow_5 rfl (lv_at hl 2 rfl) ?_
  refine lv_if_eq (tgt := 33) hx hb dX3_goesBelow_6 (by decide) (fun _ => ?_) (fun c9 => absurd c9 (by decide))
  refine lv_aload_n hx hb dX3_goesBelow_33 rfl (lv_at hl 0 rfl) ?_
  refine va_get (D := D) (ci := 3) (v := .ref z9) (C := RX3) (T := TX3) (N := 18) hx hb hts hin_X3 hown hK hP 0 rfl rfl 9 (by decide) hf_PressedPlainsModel_34 (fun _ h9 => h9) rfl dX3_goesBelow_34 ?_
  refine lv_aload_n hx hb dX3_goesBelow_37 rfl (lv_at hl 0 rfl) ?_
  refine va_get (D := D) (ci := 3) (v := .int (nI L)) (C := RX3) (T := TX3) (N := 18) hx hb hts hin_X3 hown hK hP 0 rfl rfl 10 (by decide) hf_PressedPlainsModel_77 (fun _ h9 => h9) rfl dX3_goesBelow_38 ?_
  refine lv_iconst (v := 2) hx hb dX3_goesBelow_41 (by decide) ?_
  refine lv_iconst (v := 2) hx hb dX3_goesBelow_42 (by decide) ?_
  refine lv_iload_n hx hb dX3_goesBelow_43 rfl (lv_at hl 1 rfl) ?_
  refine lv_imul hx hb dX3_goesBelow_44 ?_
  refine pq_top (nI (2 * e)) (pk_mul 2 _) ?_
  refine lv_iconst (v := 1) hx hb dX3_goesBelow_45 (by decide) ?_
  refine lv_iadd hx hb dX3_goesBelow_46 ?_
  refine pq_top (nI ((2 * e) + 1)) (nI_1 _) ?_
  refine lv_imul hx hb dX3_goesBelow_47 ?_
  refine pq_top (nI (2 * ((2 * e) + 1))) (pk_mul 2 _) ?_
  refine pq_iast hx hb hK hP hD hS 9 0 rfl rfl L (by omega) (by decide) dX3_goesBelow_48 (fun H locs hP hD hS => ?_)
  have hP : va_P D vwCl [(mo, .inr (3, [.int col, .ref z1, .ref z2, .ref z3, .ref z4, .ref z5, .ref z6, .ref z7, .ref z8, .ref z9, .int (nI L), .int B_1.2.2.2.2.1, .int B_1.2.2.2.2.2.1, .int B_1.2.2.2.2.2.2, .int laid, .int piled, .int prs, .int thr])), (z1, .inl (cI, 64, .inl hs)), (z2, .inl (cI, 64, .inl cs)), (z3, .inl (cI, 128, .inl fi)), (z4, .inl (cI, 128, .inl la)), (z5, .inl (cI, 128, .inl B_1.1)), (z6, .inl (cI, 128, .inl B_1.2.1)), (z7, .inl (cI, 128, .inl B_1.2.2.1)), (z8, .inl (cI, 128, .inl B_1.2.2.2.1)), (z9, .inl (cI, 64, .inl (upd td L (nI (2 * ((2 * e) + 1))))))] H := hP
  have hD : va_D A [(mo, .inr (3, [.int col, .ref z1, .ref z2, .ref z3, .ref z4, .ref z5, .ref z6, .ref z7, .ref z8, .ref z9, .int (nI L), .int B_1.2.2.2.2.1, .int B_1.2.2.2.2.2.1, .int B_1.2.2.2.2.2.2, .int laid, .int piled, .int prs, .int thr])), (z1, .inl (cI, 64, .inl hs)), (z2, .inl (cI, 64, .inl cs)), (z3, .inl (cI, 128, .inl fi)), (z4, .inl (cI, 128, .inl la)), (z5, .inl (cI, 128, .inl B_1.1)), (z6, .inl (cI, 128, .inl B_1.2.1)), (z7, .inl (cI, 128, .inl B_1.2.2.1)), (z8, .inl (cI, 128, .inl B_1.2.2.2.1)), (z9, .inl (cI, 64, .inl (upd td L (nI (2 * ((2 * e) + 1))))))] := hD
  refine lv_aload_n hx hb dX3_goesBelow_49 rfl (lv_at hl 0 rfl) ?_
  refine va_get (D := D) (ci := 3) (v := .ref z9) (C := RX3) (T := TX3) (N := 18) hx hb hts hin_X3 hown hK hP 0 rfl rfl 9 (by decide) hf_PressedPlainsModel_34 (fun _ h9 => h9) rfl dX3_goesBelow_50 ?_
  refine lv_aload_n hx hb dX3_goesBelow_53 rfl (lv_at hl 0 rfl) ?_
  refine va_get (D := D) (ci := 3) (v := .int (nI L)) (C := RX3) (T := TX3) (N := 18) hx hb hts hin_X3 hown hK hP 0 rfl rfl 10 (by decide) hf_PressedPlainsModel_77 (fun _ h9 => h9) rfl dX3_goesBelow_54 ?_
  refine lv_iconst (v := 1) hx hb dX3_goesBelow_57 (by decide) ?_
  refine lv_iadd hx hb dX3_goesBelow_58 ?_
  refine pq_top (nI (L + 1)) (nI_1 _) ?_
  refine lv_iconst (v := 2) hx hb dX3_goesBelow_59 (by decide) ?_
  refine lv_iconst (v := 2) hx hb dX3_goesBelow_60 (by decide) ?_
  refine lv_iload_n hx hb dX3_goesBelow_61 rfl (lv_at hl 1 rfl) ?_
  refine lv_imul hx hb dX3_goesBelow_62 ?_
  refine pq_top (nI (2 * e)) (pk_mul 2 _) ?_
  refine lv_imul hx hb dX3_goesBelow_63 ?_
  refine pq_top (nI (2 * (2 * e))) (pk_mul 2 _) ?_
  refine pq_iast hx hb hK hP hD hS 9 0 rfl rfl (L + 1) (by omega) (by decide) dX3_goesBelow_64 (fun H locs hP hD hS => ?_)
  have hP : va_P D vwCl [(mo, .inr (3, [.int col, .ref z1, .ref z2, .ref z3, .ref z4, .ref z5, .ref z6, .ref z7, .ref z8, .ref z9, .int (nI L), .int B_1.2.2.2.2.1, .int B_1.2.2.2.2.2.1, .int B_1.2.2.2.2.2.2, .int laid, .int piled, .int prs, .int thr])), (z1, .inl (cI, 64, .inl hs)), (z2, .inl (cI, 64, .inl cs)), (z3, .inl (cI, 128, .inl fi)), (z4, .inl (cI, 128, .inl la)), (z5, .inl (cI, 128, .inl B_1.1)), (z6, .inl (cI, 128, .inl B_1.2.1)), (z7, .inl (cI, 128, .inl B_1.2.2.1)), (z8, .inl (cI, 128, .inl B_1.2.2.2.1)), (z9, .inl (cI, 64, .inl (upd (upd td L (nI (2 * ((2 * e) + 1)))) (L + 1) (nI (2 * (2 * e))))))] H := hP
  have hD : va_D A [(mo, .inr (3, [.int col, .ref z1, .ref z2, .ref z3, .ref z4, .ref z5, .ref z6, .ref z7, .ref z8, .ref z9, .int (nI L), .int B_1.2.2.2.2.1, .int B_1.2.2.2.2.2.1, .int B_1.2.2.2.2.2.2, .int laid, .int piled, .int prs, .int thr])), (z1, .inl (cI, 64, .inl hs)), (z2, .inl (cI, 64, .inl cs)), (z3, .inl (cI, 128, .inl fi)), (z4, .inl (cI, 128, .inl la)), (z5, .inl (cI, 128, .inl B_1.1)), (z6, .inl (cI, 128, .inl B_1.2.1)), (z7, .inl (cI, 128, .inl B_1.2.2.1)), (z8, .inl (cI, 128, .inl B_1.2.2.2.1)), (z9, .inl (cI, 64, .inl (upd (upd td L (nI (2 * ((2 * e) + 1)))) (L + 1) (nI (2 * (2 * e))))))] := hD
  refine lv_aload_n hx hb dX3_goesBelow_65 rfl (lv_at hl 0 rfl) ?_
  refine lv_dup hx hb dX3_goesBelow_66 rfl ?_
  refine va_get (D := D) (ci := 3) (v := .int (nI L)) (C := RX3) (T := TX3) (N := 18) hx hb hts hin_X3 hown hK hP 0 rfl rfl 10 (by decide) hf_PressedPlainsModel_77 (fun _ h9 => h9) rfl dX3_goesBelow_67 ?_
  refine lv_iconst (v := 2) hx hb dX3_goesBelow_70 (by decide) ?_
  refine lv_iadd hx hb dX3_goesBelow_71 ?_
  refine pq_top (nI (L + 2)) (nI_add _ 2) ?_
  refine va_put (D := D) (ci := 3) (v := .int (nI (L + 2))) (ty := .int) (C := RX3) (T := TX3) (N := 18) hx hb hts hin_X3 tyX3 tyX3_ok nmX3 hown hK hP hD hS 0 rfl rfl 10 (by decide) hf_PressedPlainsModel_77 (fun _ h9 => h9) rfl (by decide +kernel) rfl rfl (Nat.le_of_ble_eq_true rfl) dX3_goesBelow_72 (fun H locs hP hD hS => ?_)
  have hP : va_P D vwCl [(mo, .inr (3, [.int col, .ref z1, .ref z2, .ref z3, .ref z4, .ref z5, .ref z6, .ref z7, .ref z8, .ref z9, .int (nI (L + 2)), .int B_1.2.2.2.2.1, .int B_1.2.2.2.2.2.1, .int B_1.2.2.2.2.2.2, .int laid, .int piled, .int prs, .int thr])), (z1, .inl (cI, 64, .inl hs)), (z2, .inl (cI, 64, .inl cs)), (z3, .inl (cI, 128, .inl fi)), (z4, .inl (cI, 128, .inl la)), (z5, .inl (cI, 128, .inl B_1.1)), (z6, .inl (cI, 128, .inl B_1.2.1)), (z7, .inl (cI, 128, .inl B_1.2.2.1)), (z8, .inl (cI, 128, .inl B_1.2.2.2.1)), (z9, .inl (cI, 64, .inl (upd (upd td L (nI (2 * ((2 * e) + 1)))) (L + 1) (nI (2 * (2 * e))))))] H := hP
  have hD : va_D A [(mo, .inr (3, [.int col, .ref z1, .ref z2, .ref z3, .ref z4, .ref z5, .ref z6, .ref z7, .ref z8, .ref z9, .int (nI (L + 2)), .int B_1.2.2.2.2.1, .int B_1.2.2.2.2.2.1, .int B_1.2.2.2.2.2.2, .int laid, .int piled, .int prs, .int thr])), (z1, .inl (cI, 64, .inl hs)), (z2, .inl (cI, 64, .inl cs)), (z3, .inl (cI, 128, .inl fi)), (z4, .inl (cI, 128, .inl la)), (z5, .inl (cI, 128, .inl B_1.1)), (z6, .inl (cI, 128, .inl B_1.2.1)), (z7, .inl (cI, 128, .inl B_1.2.2.1)), (z8, .inl (cI, 128, .inl B_1.2.2.2.1)), (z9, .inl (cI, 64, .inl (upd (upd td L (nI (2 * ((2 * e) + 1)))) (L + 1) (nI (2 * (2 * e))))))] := hD
  exact pq_vret hQ hx hb hr hlocks hK hS hP hD dX3_goesBelow_75 (by omega) (by omega) (⟨rfl, by subst hB_1; rfl⟩)
