set_option maxHeartbeats 4000000 in
set_option maxRecDepth 100000 in
theorem mX3_presses (l : Launch) (D : va_G) (cI : ClassId) (mo z1 z2 z3 z4 z5 z6 z7 z8 z9 : Nat) (col : Int32) (hs cs fi la : Nat → Int32) (B : BK) (td : Nat → Int32) (lf laid piled prs thr : Int32) (kf kt : Nat) (c0 : Int32) (hft : kf ≤ kt + 1) (ht : kt < 64) : pq_M l yX3_presses wsX3_presses 0 0 0 0 D [(cI, .int)] pq_0 (mdW mo z1 z2 z3 z4 z5 z6 z7 z8 z9 cI col hs cs fi la B td lf laid piled prs thr) [.ref mo, .int (nI kf), .int (nI kt), .int c0] (fun v w1 => v = some (.int (mAbove hs kf (kt + 1 - kf) c0)) ∧ w1 = mdW mo z1 z2 z3 z4 z5 z6 z7 z8 z9 cI col hs cs fi la B td lf laid piled prs thr) := by
  refine pq_enter (cc := cX3_presses) (maxL := 6) (ret := (some .int)) (by decide) rfl (Nat.le_of_ble_eq_true rfl) ?_
  intro p ev s m args below meth cd A ls Q H locs hx hb hr hml hts hown hlocks hnm hK hP hD hS hA hE hl hQ
  have hl : lv_has ls 6 [(0, .ref mo), (1, .int (nI kf)), (2, .int (nI kt)), (3, .int c0)] := hl
  have hP : va_P D vwCl [(mo, .inr (3, [.int col, .ref z1, .ref z2, .ref z3, .ref z4, .ref z5, .ref z6, .ref z7, .ref z8, .ref z9, .int lf, .int B.2.2.2.2.1, .int B.2.2.2.2.2.1, .int B.2.2.2.2.2.2, .int laid, .int piled, .int prs, .int thr])), (z1, .inl (cI, 64, .inl hs)), (z2, .inl (cI, 64, .inl cs)), (z3, .inl (cI, 128, .inl fi)), (z4, .inl (cI, 128, .inl la)), (z5, .inl (cI, 128, .inl B.1)), (z6, .inl (cI, 128, .inl B.2.1)), (z7, .inl (cI, 128, .inl B.2.2.1)), (z8, .inl (cI, 128, .inl B.2.2.2.1)), (z9, .inl (cI, 64, .inl td))] H := hP
  have hD : va_D A [(mo, .inr (3, [.int col, .ref z1, .ref z2, .ref z3, .ref z4, .ref z5, .ref z6, .ref z7, .ref z8, .ref z9, .int lf, .int B.2.2.2.2.1, .int B.2.2.2.2.2.1, .int B.2.2.2.2.2.2, .int laid, .int piled, .int prs, .int thr])), (z1, .inl (cI, 64, .inl hs)), (z2, .inl (cI, 64, .inl cs)), (z3, .inl (cI, 128, .inl fi)), (z4, .inl (cI, 128, .inl la)), (z5, .inl (cI, 128, .inl B.1)), (z6, .inl (cI, 128, .inl B.2.1)), (z7, .inl (cI, 128, .inl B.2.2.1)), (z8, .inl (cI, 128, .inl B.2.2.2.1)), (z9, .inl (cI, 64, .inl td))] := hD
  have hin_X3 : ∀ w ∈ wsX30, w ∈ wsX3_presses := by decide +kernel
  have hf_PressedPlainsModel_7 := hts (.fieldLink RX3 7 "PressedPlainsModel" "height" "[I") (by decide +kernel)
  refine lv_iconst (v := 0) hx hb dX3_presses_0 (by decide) ?_
  refine lv_istore (lv' := [(4, .int 0), (0, .ref mo), (1, .int (nI kf)), (2, .int (nI kt)), (3, .int c0)]) hx hb dX3_presses_1 hl (by decide) rfl (fun ls hl => ?_)
  refine lv_iload_n hx hb dX3_presses_3 rfl (lv_at hl 2 rfl) ?_
  refine lv_istore (lv' := [(5, .int (nI kf)), (4, .int 0), (0, .ref mo), (1, .int (nI kf)), (2, .int (nI kt)), (3, .int c0)]) hx hb dX3_presses_4 hl (by decide) rfl (fun ls hl => ?_)
  have LP : ∀ (n : Nat) (kk : Nat) (r : Int32), kt + 1 - kk < n → kf ≤ kk → kk ≤ kt + 1 → r = mAbove hs kf (kk - kf) c0 → ∀ (H : Heap) (locs : List Loc) (ls : Array Slot), va_P D vwCl [(mo, .inr (3, [.int col, .ref z1, .ref z2, .ref z3, .ref z4, .ref z5, .ref z6, .ref z7, .ref z8, .ref z9, .int lf, .int B.2.2.2.2.1, .int B.2.2.2.2.2.1, .int B.2.2.2.2.2.2, .int laid, .int piled, .int prs, .int thr])), (z1, .inl (cI, 64, .inl hs)), (z2, .inl (cI, 64, .inl cs)), (z3, .inl (cI, 128, .inl fi)), (z4, .inl (cI, 128, .inl la)), (z5, .inl (cI, 128, .inl B.1)), (z6, .inl (cI, 128, .inl B.2.1)), (z7, .inl (cI, 128, .inl B.2.2.1)), (z8, .inl (cI, 128, .inl B.2.2.2.1)), (z9, .inl (cI, 64, .inl td))] H → va_D A [(mo, .inr (3, [.int col, .ref z1, .ref z2, .ref z3, .ref z4, .ref z5, .ref z6, .ref z7, .ref z8, .ref z9, .int lf, .int B.2.2.2.2.1, .int B.2.2.2.2.2.1, .int B.2.2.2.2.2.2, .int laid, .int piled, .int prs, .int thr])), (z1, .inl (cI, 64, .inl hs)), (z2, .inl (cI, 64, .inl cs)), (z3, .inl (cI, 128, .inl fi)), (z4, .inl (cI, 128, .inl la)), (z5, .inl (cI, 128, .inl B.1)), (z6, .inl (cI, 128, .inl B.2.1)), (z7, .inl (cI, 128, .inl B.2.2.1)), (z8, .inl (cI, 128, .inl B.2.2.2.1)), (z9, .inl (cI, 64, .inl td))] → va_S A s.heap H locs → lv_has ls 6 [(5, .int (nI kk)), (4, .int r), (0, .ref mo), (1, .int (nI kf)), (2, .int (nI kt)), (3, .int c0)] → W p l ev (pq_R 0 0 0 0) s m args below meth cd H locs 0 0 Q (F0 m 6 ls []) := by
    intro n
    induction n with
    | zero => intro kk r h1; exact absurd h1 (Nat.not_lt_zero _)
    | succ n ihLP =>
      intro kk r hmeas h2 h3 hrr H locs ls hP hD hS hl
      refine lv_iload hx hb dX3_presses_6 (lv_at hl 0 rfl) ?_
      refine lv_iload_n hx hb dX3_presses_8 rfl (lv_at hl 4 rfl) ?_
      rcases Nat.lt_or_ge kt kk with k_1 | k_1
      · refine lv_icmp_gt (tgt := 47) hx hb dX3_presses_9 (by decide) (fun _ => ?_) (fun c9 => absurd ((nI_lt (a := kt) (b := kk) k_1 (by omega))) c9)
        refine lv_iload hx hb dX3_presses_47 (lv_at hl 1 rfl) ?_
        exact pq_iret hQ hx hb hr hlocks hK hS hP hD dX3_presses_49 (by omega) (by omega) (⟨by rw [hrr, show kk = kt + 1 by omega], rfl⟩)
      · refine lv_icmp_gt (tgt := 47) hx hb dX3_presses_9 (by decide) (fun c9 => absurd c9 ((nI_nlt (a := kt) (b := kk) k_1 (by omega)))) (fun _ => ?_)
        refine lv_iload hx hb dX3_presses_12 (lv_at hl 1 rfl) ?_
        have J2 : ∀ (H : Heap) (locs : List Loc) (ls : Array Slot), va_P D vwCl [(mo, .inr (3, [.int col, .ref z1, .ref z2, .ref z3, .ref z4, .ref z5, .ref z6, .ref z7, .ref z8, .ref z9, .int lf, .int B.2.2.2.2.1, .int B.2.2.2.2.2.1, .int B.2.2.2.2.2.2, .int laid, .int piled, .int prs, .int thr])), (z1, .inl (cI, 64, .inl hs)), (z2, .inl (cI, 64, .inl cs)), (z3, .inl (cI, 128, .inl fi)), (z4, .inl (cI, 128, .inl la)), (z5, .inl (cI, 128, .inl B.1)), (z6, .inl (cI, 128, .inl B.2.1)), (z7, .inl (cI, 128, .inl B.2.2.1)), (z8, .inl (cI, 128, .inl B.2.2.2.1)), (z9, .inl (cI, 64, .inl td))] H → va_D A [(mo, .inr (3, [.int col, .ref z1, .ref z2, .ref z3, .ref z4, .ref z5, .ref z6, .ref z7, .ref z8, .ref z9, .int lf, .int B.2.2.2.2.1, .int B.2.2.2.2.2.1, .int B.2.2.2.2.2.2, .int laid, .int piled, .int prs, .int thr])), (z1, .inl (cI, 64, .inl hs)), (z2, .inl (cI, 64, .inl cs)), (z3, .inl (cI, 128, .inl fi)), (z4, .inl (cI, 128, .inl la)), (z5, .inl (cI, 128, .inl B.1)), (z6, .inl (cI, 128, .inl B.2.1)), (z7, .inl (cI, 128, .inl B.2.2.1)), (z8, .inl (cI, 128, .inl B.2.2.2.1)), (z9, .inl (cI, 64, .inl td))] → va_S A s.heap H locs → lv_has ls 6 [(5, .int (nI kk)), (4, .int r), (0, .ref mo), (1, .int (nI kf)), (2, .int (nI kt)), (3, .int c0)] → W p l ev (pq_R 0 0 0 0) s m args below meth cd H locs 0 0 Q (F0 m 38 ls [.int (if hs kk ≤ c0 then 0 else hs kk - c0), .int r]) := by
          intro H locs ls hP hD hS hl
          refine lv_iadd hx hb dX3_presses_38 ?_
          refine lv_istore (lv' := [(4, .int (r + (if hs kk ≤ c0 then 0 else hs kk - c0))), (5, .int (nI kk)), (0, .ref mo), (1, .int (nI kf)), (2, .int (nI kt)), (3, .int c0)]) hx hb dX3_presses_39 hl (by decide) rfl (fun ls hl => ?_)
          refine lv_iinc (v := nI (kk + 1)) (lv' := [(5, .int (nI (kk + 1))), (4, .int (r + (if hs kk ≤ c0 then 0 else hs kk - c0))), (0, .ref mo), (1, .int (nI kf)), (2, .int (nI kt)), (3, .int c0)]) hx hb dX3_presses_41 hl (k := 1) rfl (nI_add _ 1) (by decide) rfl (fun ls hl => ?_)
          refine lv_goto (tgt := 6) hx hb dX3_presses_44 (by decide) ?_
          exact ihLP (kk + 1) (r + (if hs kk ≤ c0 then 0 else hs kk - c0)) (by omega) (by omega) (by omega) (by rw [mAbove, gSum_s _ _ h2, ← mAbove, ← hrr]) H locs ls hP hD hS (lv_sub hl [0, 1, 2, 3, 4, 5] rfl)
        refine lv_aload_n hx hb dX3_presses_14 rfl (lv_at hl 2 rfl) ?_
        refine va_get (D := D) (ci := 3) (v := .ref z1) (C := RX3) (T := TX3) (N := 18) hx hb hts hin_X3 hown hK hP 0 rfl rfl 1 (by decide) hf_PressedPlainsModel_7 (fun _ h9 => h9) rfl dX3_presses_15 ?_
        refine lv_iload hx hb dX3_presses_18 (lv_at hl 0 rfl) ?_
        refine pq_iald hx hb hK hP 1 0 rfl rfl kk (by omega) (by decide) dX3_presses_20 ?_
        refine lv_iload_n hx hb dX3_presses_21 rfl (lv_at hl 5 rfl) ?_
        refine lv_icmp_le (tgt := 37) hx hb dX3_presses_22 (by decide) (fun c_3 => ?_) (fun c_3 => ?_)
        · refine lv_iconst (v := 0) hx hb dX3_presses_37 (by decide) ?_
          refine pq_top (if hs kk ≤ c0 then 0 else hs kk - c0) ((if_pos c_3).symm) ?_
          exact J2 H locs ls hP hD hS hl
        · refine lv_aload_n hx hb dX3_presses_25 rfl (lv_at hl 2 rfl) ?_
          refine va_get (D := D) (ci := 3) (v := .ref z1) (C := RX3) (T := TX3) (N := 18) hx hb hts hin_X3 hown hK hP 0 rfl rfl 1 (by decide) hf_PressedPlainsModel_7 (fun _ h9 => h9) rfl dX3_presses_26 ?_
          refine lv_iload hx hb dX3_presses_29 (lv_at hl 0 rfl) ?_
          refine pq_iald hx hb hK hP 1 0 rfl rfl kk (by omega) (by decide) dX3_presses_31 ?_
          refine lv_iload_n hx hb dX3_presses_32 rfl (lv_at hl 5 rfl) ?_
          refine lv_isub hx hb dX3_presses_33 ?_
          refine lv_goto (tgt := 38) hx hb dX3_presses_34 (by decide) ?_
          refine pq_top (if hs kk ≤ c0 then 0 else hs kk - c0) ((if_neg c_3).symm) ?_
          exact J2 H locs ls hP hD hS hl
  exact LP _ kf 0 (Nat.lt_succ_self _) (Nat.le_refl _) (by omega) (by rw [Nat.sub_self] <;> rfl) H locs ls hP hD hS (lv_sub hl [0, 1, 2, 3, 4, 5] rfl)

set_option maxHeartbeats 4000000 in
set_option maxRecDepth 100000 in
theorem mX3_lower (l : Launch) (D : va_G) (cI : ClassId) (mo z1 z2 z3 z4 z5 z6 z7 z8 z9 : Nat) (col : Int32) (hs cs fi la : Nat → Int32) (B : BK) (td : Nat → Int32) (lf laid piled prs thr : Int32) (x y c0 : Int32) (N : Nat) (hN : col = nI N) (hN1 : 1 ≤ N) (hN2 : N ≤ 64) (hsp : ∀ e, e < 128 → ¬ la e ≤ fi e → e < 64) (hch : ∀ e, 1 ≤ e → e < 64 → ¬ la e ≤ fi e → fi (2 * e) ≤ la (2 * e) ∧ fi (2 * e + 1) ≤ la (2 * e + 1)) (hrt : fi 1 ≤ la 1) : pq_M l yX3_lower wsX3_lower 3 66 0 0 D [(cI, .int)] pq_0 (mdW mo z1 z2 z3 z4 z5 z6 z7 z8 z9 cI col hs cs fi la B td lf laid piled prs thr) [.ref mo, .int x, .int y, .int c0] (fun v w1 => (cLow col x y c0 0 1000 ≠ 0 ∧ v = some (.int 0) ∧ w1 = mdW mo z1 z2 z3 z4 z5 z6 z7 z8 z9 cI col hs cs fi la B td lf laid piled prs (cLow col x y c0 0 1000)) ∨ (∃ kf kt, x = nI kf ∧ y = nI kt ∧ kf ≤ kt ∧ kt < N ∧ v = some (.int (mAbove hs kf (kt + 1 - kf) c0)) ∧ (∃ td2, w1 = mdW mo z1 z2 z3 z4 z5 z6 z7 z8 z9 cI col (mPressH c0 kf hs (kt + 1 - kf)) (mPressC c0 kf cs (kt + 1 - kf)) fi la (mPress fi la (nI kf) (nI kt) c0 7 (bBegin B) 1) td2 0 laid piled (prs + mAbove hs kf (kt + 1 - kf) c0) 0) ∧ cLow col x y c0 0 1000 = 0)) := by
  refine pq_enter (cc := cX3_lower) (maxL := 7) (ret := (some .int)) (by decide) rfl (Nat.le_of_ble_eq_true rfl) ?_
  intro p ev s m args below meth cd A ls Q H locs hx hb hr hml hts hown hlocks hnm hK hP hD hS hA hE hl hQ
  have hl : lv_has ls 7 [(0, .ref mo), (1, .int x), (2, .int y), (3, .int c0)] := hl
  have hP : va_P D vwCl [(mo, .inr (3, [.int col, .ref z1, .ref z2, .ref z3, .ref z4, .ref z5, .ref z6, .ref z7, .ref z8, .ref z9, .int lf, .int B.2.2.2.2.1, .int B.2.2.2.2.2.1, .int B.2.2.2.2.2.2, .int laid, .int piled, .int prs, .int thr])), (z1, .inl (cI, 64, .inl hs)), (z2, .inl (cI, 64, .inl cs)), (z3, .inl (cI, 128, .inl fi)), (z4, .inl (cI, 128, .inl la)), (z5, .inl (cI, 128, .inl B.1)), (z6, .inl (cI, 128, .inl B.2.1)), (z7, .inl (cI, 128, .inl B.2.2.1)), (z8, .inl (cI, 128, .inl B.2.2.2.1)), (z9, .inl (cI, 64, .inl td))] H := hP
  have hD : va_D A [(mo, .inr (3, [.int col, .ref z1, .ref z2, .ref z3, .ref z4, .ref z5, .ref z6, .ref z7, .ref z8, .ref z9, .int lf, .int B.2.2.2.2.1, .int B.2.2.2.2.2.1, .int B.2.2.2.2.2.2, .int laid, .int piled, .int prs, .int thr])), (z1, .inl (cI, 64, .inl hs)), (z2, .inl (cI, 64, .inl cs)), (z3, .inl (cI, 128, .inl fi)), (z4, .inl (cI, 128, .inl la)), (z5, .inl (cI, 128, .inl B.1)), (z6, .inl (cI, 128, .inl B.2.1)), (z7, .inl (cI, 128, .inl B.2.2.1)), (z8, .inl (cI, 128, .inl B.2.2.2.1)), (z9, .inl (cI, 64, .inl td))] := hD
  have hin_X3 : ∀ w ∈ wsX30, w ∈ wsX3_lower := by decide +kernel
  have hf_PressedPlainsModel_77 := hts (.fieldLink RX3 77 "PressedPlainsModel" "left" "I") (by decide +kernel)
  have hf_PressedPlainsModel_34 := hts (.fieldLink RX3 34 "PressedPlainsModel" "todo" "[I") (by decide +kernel)
  have hf_PressedPlainsModel_16 := hts (.fieldLink RX3 16 "PressedPlainsModel" "first" "[I") (by decide +kernel)
  have hf_PressedPlainsModel_19 := hts (.fieldLink RX3 19 "PressedPlainsModel" "last" "[I") (by decide +kernel)
  have hf_PressedPlainsModel_25 := hts (.fieldLink RX3 25 "PressedPlainsModel" "second" "[I") (by decide +kernel)
  have hf_PressedPlainsModel_22 := hts (.fieldLink RX3 22 "PressedPlainsModel" "greatest" "[I") (by decide +kernel)
  have hf_PressedPlainsModel_67 := hts (.fieldLink RX3 67 "PressedPlainsModel" "pressed" "I") (by decide +kernel)
  have hf_PressedPlainsModel_7 := hts (.fieldLink RX3 7 "PressedPlainsModel" "height" "[I") (by decide +kernel)
  have hf_PressedPlainsModel_13 := hts (.fieldLink RX3 13 "PressedPlainsModel" "ceiling" "[I") (by decide +kernel)
  refine lv_aload_n hx hb dX3_lower_0 rfl (lv_at hl 0 rfl) ?_
  refine lv_aload_n hx hb dX3_lower_1 rfl (lv_at hl 0 rfl) ?_
  refine lv_iload_n hx hb dX3_lower_2 rfl (lv_at hl 1 rfl) ?_
  refine lv_iload_n hx hb dX3_lower_3 rfl (lv_at hl 2 rfl) ?_
  refine pq_callV (wr := []) (own := RX3) (nL := 7) (q0 := 0) (ci := 3) [0, 1, 2, 3, 4, 5, 6, 7, 8, 9] [] [.int x, .int y] (mX3_isRange l D cI mo z1 z2 z3 z4 z5 z6 z7 z8 z9 col hs cs fi la B td lf laid piled prs thr x y N hN hN1 hN2) ⟨hx, hb, hml, hown, hts⟩ (cwV 2 hts gX3_lower_X3_isRange rfl rfl rfl (by decide +kernel) ⟨by dsimp only [pq_R]; omega, by dsimp only [pq_R]; omega⟩) pq_bl0 (fun _ _ _ => trivial) hK hP hD hS hA rfl (by decide) rfl (by decide) (by decide) rfl rfl rfl rfl hl.1 rfl (Nat.le_of_ble_eq_true rfl) dX3_lower_4 ⟨by dsimp only [pq_R]; omega, by dsimp only [pq_R]; omega⟩ (fun v w1 H locs hq hP hD hS hz => ?_)
  obtain ⟨rfl, rfl⟩ := hq
  have hP : va_P D vwCl [(mo, .inr (3, [.int col, .ref z1, .ref z2, .ref z3, .ref z4, .ref z5, .ref z6, .ref z7, .ref z8, .ref z9, .int lf, .int B.2.2.2.2.1, .int B.2.2.2.2.2.1, .int B.2.2.2.2.2.2, .int laid, .int piled, .int prs, .int thr])), (z1, .inl (cI, 64, .inl hs)), (z2, .inl (cI, 64, .inl cs)), (z3, .inl (cI, 128, .inl fi)), (z4, .inl (cI, 128, .inl la)), (z5, .inl (cI, 128, .inl B.1)), (z6, .inl (cI, 128, .inl B.2.1)), (z7, .inl (cI, 128, .inl B.2.2.1)), (z8, .inl (cI, 128, .inl B.2.2.2.1)), (z9, .inl (cI, 64, .inl td))] H := hP
  have hD : va_D A [(mo, .inr (3, [.int col, .ref z1, .ref z2, .ref z3, .ref z4, .ref z5, .ref z6, .ref z7, .ref z8, .ref z9, .int lf, .int B.2.2.2.2.1, .int B.2.2.2.2.2.1, .int B.2.2.2.2.2.2, .int laid, .int piled, .int prs, .int thr])), (z1, .inl (cI, 64, .inl hs)), (z2, .inl (cI, 64, .inl cs)), (z3, .inl (cI, 128, .inl fi)), (z4, .inl (cI, 128, .inl la)), (z5, .inl (cI, 128, .inl B.1)), (z6, .inl (cI, 128, .inl B.2.1)), (z7, .inl (cI, 128, .inl B.2.2.1)), (z8, .inl (cI, 128, .inl B.2.2.2.1)), (z9, .inl (cI, 64, .inl td))] := hD
  by_cases b_2 : ¬ (bCol col x ∨ bCol col y)
  · rw [if_pos b_2]
    refine W.eq (g2 := F0 m 7 ls [.int 1, .ref mo]) rfl ?_
    refine lv_if_ne (tgt := 14) hx hb dX3_lower_7 (by decide) (fun _ => ?_) (fun c9 => absurd c9 (by decide))
    refine lv_iload_n hx hb dX3_lower_14 rfl (lv_at hl 2 rfl) ?_
    refine lv_iload_n hx hb dX3_lower_15 rfl (lv_at hl 1 rfl) ?_
    refine lv_icmp_lt (tgt := 30) hx hb dX3_lower_16 (by decide) (fun c_3 => ?_) (fun c_3 => ?_)
    · refine lv_iconst (v := 2) hx hb dX3_lower_30 (by decide) ?_
      refine lv_goto (tgt := 35) hx hb dX3_lower_31 (by decide) ?_
      refine pq_callV (wr := []) (own := RX3) (nL := 7) (q0 := 0) (ci := 3) [0, 1, 2, 3, 4, 5, 6, 7, 8, 9] [] [.int 2] (mX3_isFine l D cI mo z1 z2 z3 z4 z5 z6 z7 z8 z9 col hs cs fi la B td lf laid piled prs thr 2) ⟨hx, hb, hml, hown, hts⟩ (cwV 1 hts gX3_lower_X3_isFine rfl rfl rfl (by decide +kernel) ⟨by dsimp only [pq_R]; omega, by dsimp only [pq_R]; omega⟩) pq_bl0 (fun _ _ _ => trivial) hK hP hD hS hA rfl (by decide) rfl (by decide) (by decide) rfl rfl rfl rfl hl.1 rfl (Nat.le_of_ble_eq_true rfl) dX3_lower_35 ⟨by dsimp only [pq_R]; omega, by dsimp only [pq_R]; omega⟩ (fun v w1 H locs hq hP hD hS hz => ?_)
      obtain ⟨rfl, rfl⟩ := hq
      rw [if_neg (show ¬ (2 : Int32) = 0 by decide)]
      have hP : va_P D vwCl [(mo, .inr (3, [.int col, .ref z1, .ref z2, .ref z3, .ref z4, .ref z5, .ref z6, .ref z7, .ref z8, .ref z9, .int lf, .int B.2.2.2.2.1, .int B.2.2.2.2.2.1, .int B.2.2.2.2.2.2, .int laid, .int piled, .int prs, .int 2])), (z1, .inl (cI, 64, .inl hs)), (z2, .inl (cI, 64, .inl cs)), (z3, .inl (cI, 128, .inl fi)), (z4, .inl (cI, 128, .inl la)), (z5, .inl (cI, 128, .inl B.1)), (z6, .inl (cI, 128, .inl B.2.1)), (z7, .inl (cI, 128, .inl B.2.2.1)), (z8, .inl (cI, 128, .inl B.2.2.2.1)), (z9, .inl (cI, 64, .inl td))] H := hP
      have hD : va_D A [(mo, .inr (3, [.int col, .ref z1, .ref z2, .ref z3, .ref z4, .ref z5, .ref z6, .ref z7, .ref z8, .ref z9, .int lf, .int B.2.2.2.2.1, .int B.2.2.2.2.2.1, .int B.2.2.2.2.2.2, .int laid, .int piled, .int prs, .int 2])), (z1, .inl (cI, 64, .inl hs)), (z2, .inl (cI, 64, .inl cs)), (z3, .inl (cI, 128, .inl fi)), (z4, .inl (cI, 128, .inl la)), (z5, .inl (cI, 128, .inl B.1)), (z6, .inl (cI, 128, .inl B.2.1)), (z7, .inl (cI, 128, .inl B.2.2.1)), (z8, .inl (cI, 128, .inl B.2.2.2.1)), (z9, .inl (cI, 64, .inl td))] := hD
      refine W.eq (g2 := F0 m 38 ls [.int 0]) rfl ?_
      refine lv_if_ne (tgt := 43) hx hb dX3_lower_38 (by decide) (fun c9 => absurd c9 (by decide)) (fun _ => ?_)
      refine lv_iconst (v := 0) hx hb dX3_lower_41 (by decide) ?_
      exact pq_iret hQ hx hb hr hlocks hK hS hP hD dX3_lower_42 (by omega) (by omega) (by have hcd : cLow col x y c0 0 1000 = 2 := (by rw [cLow, if_neg b_2, if_pos (Or.inl c_3)]); exact Or.inl ⟨by rw [hcd]; decide, rfl, by rw [hcd] <;> rfl⟩)
    · refine lv_iload_n hx hb dX3_lower_19 rfl (lv_at hl 3 rfl) ?_
      refine lv_iconst (v := 0) hx hb dX3_lower_20 (by decide) ?_
      refine lv_sipush (v := 1000) hx hb dX3_lower_21 (by decide) ?_
      refine pq_callS (wr := [(mo, .inr (3, [.int col, .ref z1, .ref z2, .ref z3, .ref z4, .ref z5, .ref z6, .ref z7, .ref z8, .ref z9, .int lf, .int B.2.2.2.2.1, .int B.2.2.2.2.2.1, .int B.2.2.2.2.2.2, .int laid, .int piled, .int prs, .int thr])), (z1, .inl (cI, 64, .inl hs)), (z2, .inl (cI, 64, .inl cs)), (z3, .inl (cI, 128, .inl fi)), (z4, .inl (cI, 128, .inl la)), (z5, .inl (cI, 128, .inl B.1)), (z6, .inl (cI, 128, .inl B.2.1)), (z7, .inl (cI, 128, .inl B.2.2.1)), (z8, .inl (cI, 128, .inl B.2.2.2.1)), (z9, .inl (cI, 64, .inl td))]) (own := RX3) (nL := 7) [] [0, 1, 2, 3, 4, 5, 6, 7, 8, 9] [.int c0, .int 0, .int 1000] (mX3_in l D cI  c0 0 1000) ⟨hx, hb, hml, hown, hts⟩ (va_cwS 3 hts gX3_lower_X3_in rfl rfl rfl (by decide +kernel) ⟨by dsimp only [pq_R]; omega, by dsimp only [pq_R]; omega⟩) pq_bl0 (fun _ _ _ => trivial) hK hP hD hS hA rfl (by decide) rfl (by decide) (by decide) rfl hl.1 rfl (Nat.le_of_ble_eq_true rfl) dX3_lower_24 ⟨by dsimp only [pq_R]; omega, by dsimp only [pq_R]; omega⟩ (fun v w1 H locs hq hP hD hS hz => ?_)
      obtain ⟨rfl, rfl⟩ := hq
      have hP : va_P D vwCl [(mo, .inr (3, [.int col, .ref z1, .ref z2, .ref z3, .ref z4, .ref z5, .ref z6, .ref z7, .ref z8, .ref z9, .int lf, .int B.2.2.2.2.1, .int B.2.2.2.2.2.1, .int B.2.2.2.2.2.2, .int laid, .int piled, .int prs, .int thr])), (z1, .inl (cI, 64, .inl hs)), (z2, .inl (cI, 64, .inl cs)), (z3, .inl (cI, 128, .inl fi)), (z4, .inl (cI, 128, .inl la)), (z5, .inl (cI, 128, .inl B.1)), (z6, .inl (cI, 128, .inl B.2.1)), (z7, .inl (cI, 128, .inl B.2.2.1)), (z8, .inl (cI, 128, .inl B.2.2.2.1)), (z9, .inl (cI, 64, .inl td))] H := hP
      have hD : va_D A [(mo, .inr (3, [.int col, .ref z1, .ref z2, .ref z3, .ref z4, .ref z5, .ref z6, .ref z7, .ref z8, .ref z9, .int lf, .int B.2.2.2.2.1, .int B.2.2.2.2.2.1, .int B.2.2.2.2.2.2, .int laid, .int piled, .int prs, .int thr])), (z1, .inl (cI, 64, .inl hs)), (z2, .inl (cI, 64, .inl cs)), (z3, .inl (cI, 128, .inl fi)), (z4, .inl (cI, 128, .inl la)), (z5, .inl (cI, 128, .inl B.1)), (z6, .inl (cI, 128, .inl B.2.1)), (z7, .inl (cI, 128, .inl B.2.2.1)), (z8, .inl (cI, 128, .inl B.2.2.2.1)), (z9, .inl (cI, 64, .inl td))] := hD
      by_cases b_6 : ¬ bRng c0 0 1000
      · rw [if_pos b_6]
        refine W.eq (g2 := F0 m 27 ls [.int 1, .ref mo]) rfl ?_
        refine lv_if_ne (tgt := 34) hx hb dX3_lower_27 (by decide) (fun _ => ?_) (fun c9 => absurd c9 (by decide))
        refine lv_iconst (v := 0) hx hb dX3_lower_34 (by decide) ?_
        refine pq_callV (wr := []) (own := RX3) (nL := 7) (q0 := 0) (ci := 3) [0, 1, 2, 3, 4, 5, 6, 7, 8, 9] [] [.int 0] (mX3_isFine l D cI mo z1 z2 z3 z4 z5 z6 z7 z8 z9 col hs cs fi la B td lf laid piled prs thr 0) ⟨hx, hb, hml, hown, hts⟩ (cwV 1 hts gX3_lower_X3_isFine rfl rfl rfl (by decide +kernel) ⟨by dsimp only [pq_R]; omega, by dsimp only [pq_R]; omega⟩) pq_bl0 (fun _ _ _ => trivial) hK hP hD hS hA rfl (by decide) rfl (by decide) (by decide) rfl rfl rfl rfl hl.1 rfl (Nat.le_of_ble_eq_true rfl) dX3_lower_35 ⟨by dsimp only [pq_R]; omega, by dsimp only [pq_R]; omega⟩ (fun v w1 H locs hq hP hD hS hz => ?_)
        obtain ⟨rfl, rfl⟩ := hq
        rw [if_pos rfl]
        have hP : va_P D vwCl [(mo, .inr (3, [.int col, .ref z1, .ref z2, .ref z3, .ref z4, .ref z5, .ref z6, .ref z7, .ref z8, .ref z9, .int lf, .int B.2.2.2.2.1, .int B.2.2.2.2.2.1, .int B.2.2.2.2.2.2, .int laid, .int piled, .int prs, .int 0])), (z1, .inl (cI, 64, .inl hs)), (z2, .inl (cI, 64, .inl cs)), (z3, .inl (cI, 128, .inl fi)), (z4, .inl (cI, 128, .inl la)), (z5, .inl (cI, 128, .inl B.1)), (z6, .inl (cI, 128, .inl B.2.1)), (z7, .inl (cI, 128, .inl B.2.2.1)), (z8, .inl (cI, 128, .inl B.2.2.2.1)), (z9, .inl (cI, 64, .inl td))] H := hP
        have hD : va_D A [(mo, .inr (3, [.int col, .ref z1, .ref z2, .ref z3, .ref z4, .ref z5, .ref z6, .ref z7, .ref z8, .ref z9, .int lf, .int B.2.2.2.2.1, .int B.2.2.2.2.2.1, .int B.2.2.2.2.2.2, .int laid, .int piled, .int prs, .int 0])), (z1, .inl (cI, 64, .inl hs)), (z2, .inl (cI, 64, .inl cs)), (z3, .inl (cI, 128, .inl fi)), (z4, .inl (cI, 128, .inl la)), (z5, .inl (cI, 128, .inl B.1)), (z6, .inl (cI, 128, .inl B.2.1)), (z7, .inl (cI, 128, .inl B.2.2.1)), (z8, .inl (cI, 128, .inl B.2.2.2.1)), (z9, .inl (cI, 64, .inl td))] := hD
        refine W.eq (g2 := F0 m 38 ls [.int 1]) rfl ?_
        refine lv_if_ne (tgt := 43) hx hb dX3_lower_38 (by decide) (fun _ => ?_) (fun c9 => absurd c9 (by decide))
        have hnsp : nSp col x y := ⟨b_2, c_3⟩
        obtain ⟨kf, kt, hft, htN, rfl, rfl⟩ := spN hnsp hN hN2
        refine lv_aload_n hx hb dX3_lower_43 rfl (lv_at hl 0 rfl) ?_
        refine pq_callV (wr := []) (own := RX3) (nL := 7) (q0 := 0) (ci := 3) [0, 1, 2, 3, 4, 5, 6, 7, 8, 9] [] [] (mX3_begins l D cI mo z1 z2 z3 z4 z5 z6 z7 z8 z9 col hs cs fi la B td lf laid piled prs 0 ) ⟨hx, hb, hml, hown, hts⟩ (cwV 0 hts gX3_lower_X3_begins rfl rfl rfl (by decide +kernel) ⟨by dsimp only [pq_R]; omega, by dsimp only [pq_R]; omega⟩) pq_bl0 (fun _ _ _ => trivial) hK hP hD hS hA rfl (by decide) rfl (by decide) (by decide) rfl rfl rfl rfl hl.1 rfl (Nat.le_of_ble_eq_true rfl) dX3_lower_44 ⟨by dsimp only [pq_R]; omega, by dsimp only [pq_R]; omega⟩ (fun v w1 H locs hq hP hD hS hz => ?_)
        obtain ⟨rfl, rfl⟩ := hq
        obtain ⟨B_8, hB_8⟩ : ∃ zz, zz = bBegin B := ⟨_, rfl⟩
        rw [← hB_8] at hP hD
        have hP : va_P D vwCl [(mo, .inr (3, [.int col, .ref z1, .ref z2, .ref z3, .ref z4, .ref z5, .ref z6, .ref z7, .ref z8, .ref z9, .int (nI (0 + 1)), .int B_8.2.2.2.2.1, .int B_8.2.2.2.2.2.1, .int B_8.2.2.2.2.2.2, .int laid, .int piled, .int prs, .int 0])), (z1, .inl (cI, 64, .inl hs)), (z2, .inl (cI, 64, .inl cs)), (z3, .inl (cI, 128, .inl fi)), (z4, .inl (cI, 128, .inl la)), (z5, .inl (cI, 128, .inl B_8.1)), (z6, .inl (cI, 128, .inl B_8.2.1)), (z7, .inl (cI, 128, .inl B_8.2.2.1)), (z8, .inl (cI, 128, .inl B_8.2.2.2.1)), (z9, .inl (cI, 64, .inl (upd td 0 2)))] H := hP
        have hD : va_D A [(mo, .inr (3, [.int col, .ref z1, .ref z2, .ref z3, .ref z4, .ref z5, .ref z6, .ref z7, .ref z8, .ref z9, .int (nI (0 + 1)), .int B_8.2.2.2.2.1, .int B_8.2.2.2.2.2.1, .int B_8.2.2.2.2.2.2, .int laid, .int piled, .int prs, .int 0])), (z1, .inl (cI, 64, .inl hs)), (z2, .inl (cI, 64, .inl cs)), (z3, .inl (cI, 128, .inl fi)), (z4, .inl (cI, 128, .inl la)), (z5, .inl (cI, 128, .inl B_8.1)), (z6, .inl (cI, 128, .inl B_8.2.1)), (z7, .inl (cI, 128, .inl B_8.2.2.1)), (z8, .inl (cI, 128, .inl B_8.2.2.2.1)), (z9, .inl (cI, 64, .inl (upd td 0 2)))] := hD
        refine W.eq (g2 := F0 m 47 ls []) rfl ?_
        have LT : ∀ (e L : Nat) (Y : BK) (T : Nat → Int32), e < 64 → L < 20 → T L = nI (2 * e + 1) → (∀ T' : Nat → Int32, (∀ j, j < L → T' j = T j) → ∀ (H : Heap) (locs : List Loc) (ls : Array Slot), va_P D vwCl [(mo, .inr (3, [.int col, .ref z1, .ref z2, .ref z3, .ref z4, .ref z5, .ref z6, .ref z7, .ref z8, .ref z9, .int (nI L), .int ((mTell Y e).2.2.2.2.1), .int ((mTell Y e).2.2.2.2.2.1), .int ((mTell Y e).2.2.2.2.2.2), .int laid, .int piled, .int prs, .int 0])), (z1, .inl (cI, 64, .inl hs)), (z2, .inl (cI, 64, .inl cs)), (z3, .inl (cI, 128, .inl fi)), (z4, .inl (cI, 128, .inl la)), (z5, .inl (cI, 128, .inl ((mTell Y e).1))), (z6, .inl (cI, 128, .inl ((mTell Y e).2.1))), (z7, .inl (cI, 128, .inl ((mTell Y e).2.2.1))), (z8, .inl (cI, 128, .inl ((mTell Y e).2.2.2.1))), (z9, .inl (cI, 64, .inl T'))] H → va_D A [(mo, .inr (3, [.int col, .ref z1, .ref z2, .ref z3, .ref z4, .ref z5, .ref z6, .ref z7, .ref z8, .ref z9, .int (nI L), .int ((mTell Y e).2.2.2.2.1), .int ((mTell Y e).2.2.2.2.2.1), .int ((mTell Y e).2.2.2.2.2.2), .int laid, .int piled, .int prs, .int 0])), (z1, .inl (cI, 64, .inl hs)), (z2, .inl (cI, 64, .inl cs)), (z3, .inl (cI, 128, .inl fi)), (z4, .inl (cI, 128, .inl la)), (z5, .inl (cI, 128, .inl ((mTell Y e).1))), (z6, .inl (cI, 128, .inl ((mTell Y e).2.1))), (z7, .inl (cI, 128, .inl ((mTell Y e).2.2.1))), (z8, .inl (cI, 128, .inl ((mTell Y e).2.2.2.1))), (z9, .inl (cI, 64, .inl T'))] → va_S A s.heap H locs → lv_has ls 7 [(0, .ref mo), (1, .int (nI kf)), (2, .int (nI kt)), (3, .int c0)] → W p l ev (pq_R 3 66 0 0) s m args below meth cd H locs 0 0 Q (F0 m 47 ls [])) → ∀ (H : Heap) (locs : List Loc) (ls : Array Slot), va_P D vwCl [(mo, .inr (3, [.int col, .ref z1, .ref z2, .ref z3, .ref z4, .ref z5, .ref z6, .ref z7, .ref z8, .ref z9, .int (nI (L + 1)), .int Y.2.2.2.2.1, .int Y.2.2.2.2.2.1, .int Y.2.2.2.2.2.2, .int laid, .int piled, .int prs, .int 0])), (z1, .inl (cI, 64, .inl hs)), (z2, .inl (cI, 64, .inl cs)), (z3, .inl (cI, 128, .inl fi)), (z4, .inl (cI, 128, .inl la)), (z5, .inl (cI, 128, .inl Y.1)), (z6, .inl (cI, 128, .inl Y.2.1)), (z7, .inl (cI, 128, .inl Y.2.2.1)), (z8, .inl (cI, 128, .inl Y.2.2.2.1)), (z9, .inl (cI, 64, .inl T))] H → va_D A [(mo, .inr (3, [.int col, .ref z1, .ref z2, .ref z3, .ref z4, .ref z5, .ref z6, .ref z7, .ref z8, .ref z9, .int (nI (L + 1)), .int Y.2.2.2.2.1, .int Y.2.2.2.2.2.1, .int Y.2.2.2.2.2.2, .int laid, .int piled, .int prs, .int 0])), (z1, .inl (cI, 64, .inl hs)), (z2, .inl (cI, 64, .inl cs)), (z3, .inl (cI, 128, .inl fi)), (z4, .inl (cI, 128, .inl la)), (z5, .inl (cI, 128, .inl Y.1)), (z6, .inl (cI, 128, .inl Y.2.1)), (z7, .inl (cI, 128, .inl Y.2.2.1)), (z8, .inl (cI, 128, .inl Y.2.2.2.1)), (z9, .inl (cI, 64, .inl T))] → va_S A s.heap H locs → lv_has ls 7 [(0, .ref mo), (1, .int (nI kf)), (2, .int (nI kt)), (3, .int c0)] → W p l ev (pq_R 3 66 0 0) s m args below meth cd H locs 0 0 Q (F0 m 47 ls []) := by
          intro e L Y T he hL hT K H locs ls hP hD hS hl
          refine lv_aload_n hx hb dX3_lower_47 rfl (lv_at hl 0 rfl) ?_
          refine va_get (D := D) (ci := 3) (v := .int (nI (L + 1))) (C := RX3) (T := TX3) (N := 18) hx hb hts hin_X3 hown hK hP 0 rfl rfl 10 (by decide) hf_PressedPlainsModel_77 (fun _ h9 => h9) rfl dX3_lower_48 ?_
          refine lv_if_le (tgt := 249) hx hb dX3_lower_51 (by decide) (fun c9 => absurd c9 (nI_ge (a := 0) (b := (L + 1)) (by omega) (by omega))) (fun _ => ?_)
          refine lv_aload_n hx hb dX3_lower_54 rfl (lv_at hl 0 rfl) ?_
          refine lv_dup hx hb dX3_lower_55 rfl ?_
          refine va_get (D := D) (ci := 3) (v := .int (nI (L + 1))) (C := RX3) (T := TX3) (N := 18) hx hb hts hin_X3 hown hK hP 0 rfl rfl 10 (by decide) hf_PressedPlainsModel_77 (fun _ h9 => h9) rfl dX3_lower_56 ?_
          refine lv_iconst (v := 1) hx hb dX3_lower_59 (by decide) ?_
          refine lv_isub hx hb dX3_lower_60 ?_
          refine pq_top (nI L) (nI_pred _) ?_
          refine va_put (D := D) (ci := 3) (v := .int (nI L)) (ty := .int) (C := RX3) (T := TX3) (N := 18) hx hb hts hin_X3 tyX3 tyX3_ok nmX3 hown hK hP hD hS 0 rfl rfl 10 (by decide) hf_PressedPlainsModel_77 (fun _ h9 => h9) rfl (by decide +kernel) rfl rfl (Nat.le_of_ble_eq_true rfl) dX3_lower_61 (fun H locs hP hD hS => ?_)
          have hP : va_P D vwCl [(mo, .inr (3, [.int col, .ref z1, .ref z2, .ref z3, .ref z4, .ref z5, .ref z6, .ref z7, .ref z8, .ref z9, .int (nI L), .int Y.2.2.2.2.1, .int Y.2.2.2.2.2.1, .int Y.2.2.2.2.2.2, .int laid, .int piled, .int prs, .int 0])), (z1, .inl (cI, 64, .inl hs)), (z2, .inl (cI, 64, .inl cs)), (z3, .inl (cI, 128, .inl fi)), (z4, .inl (cI, 128, .inl la)), (z5, .inl (cI, 128, .inl Y.1)), (z6, .inl (cI, 128, .inl Y.2.1)), (z7, .inl (cI, 128, .inl Y.2.2.1)), (z8, .inl (cI, 128, .inl Y.2.2.2.1)), (z9, .inl (cI, 64, .inl T))] H := hP
          have hD : va_D A [(mo, .inr (3, [.int col, .ref z1, .ref z2, .ref z3, .ref z4, .ref z5, .ref z6, .ref z7, .ref z8, .ref z9, .int (nI L), .int Y.2.2.2.2.1, .int Y.2.2.2.2.2.1, .int Y.2.2.2.2.2.2, .int laid, .int piled, .int prs, .int 0])), (z1, .inl (cI, 64, .inl hs)), (z2, .inl (cI, 64, .inl cs)), (z3, .inl (cI, 128, .inl fi)), (z4, .inl (cI, 128, .inl la)), (z5, .inl (cI, 128, .inl Y.1)), (z6, .inl (cI, 128, .inl Y.2.1)), (z7, .inl (cI, 128, .inl Y.2.2.1)), (z8, .inl (cI, 128, .inl Y.2.2.2.1)), (z9, .inl (cI, 64, .inl T))] := hD
          refine lv_aload_n hx hb dX3_lower_64 rfl (lv_at hl 0 rfl) ?_
          refine va_get (D := D) (ci := 3) (v := .ref z9) (C := RX3) (T := TX3) (N := 18) hx hb hts hin_X3 hown hK hP 0 rfl rfl 9 (by decide) hf_PressedPlainsModel_34 (fun _ h9 => h9) rfl dX3_lower_65 ?_
          refine lv_aload_n hx hb dX3_lower_68 rfl (lv_at hl 0 rfl) ?_
          refine va_get (D := D) (ci := 3) (v := .int (nI L)) (C := RX3) (T := TX3) (N := 18) hx hb hts hin_X3 hown hK hP 0 rfl rfl 10 (by decide) hf_PressedPlainsModel_77 (fun _ h9 => h9) rfl dX3_lower_69 ?_
          refine pq_iald hx hb hK hP 9 0 rfl rfl L (by omega) (by decide) dX3_lower_72 ?_
          refine pq_top (nI (2 * e + 1)) hT ?_
          refine lv_iconst (v := 2) hx hb dX3_lower_73 (by decide) ?_
          refine lv_idiv hx hb dX3_lower_74 (by decide) ?_
          refine pq_top (nI e) (pq_half1 (by omega)) ?_
          refine lv_istore (lv' := [(4, .int (nI e)), (0, .ref mo), (1, .int (nI kf)), (2, .int (nI kt)), (3, .int c0)]) hx hb dX3_lower_75 hl (by decide) rfl (fun ls hl => ?_)
          refine lv_aload_n hx hb dX3_lower_77 rfl (lv_at hl 1 rfl) ?_
          refine va_get (D := D) (ci := 3) (v := .ref z9) (C := RX3) (T := TX3) (N := 18) hx hb hts hin_X3 hown hK hP 0 rfl rfl 9 (by decide) hf_PressedPlainsModel_34 (fun _ h9 => h9) rfl dX3_lower_78 ?_
          refine lv_aload_n hx hb dX3_lower_81 rfl (lv_at hl 1 rfl) ?_
          refine va_get (D := D) (ci := 3) (v := .int (nI L)) (C := RX3) (T := TX3) (N := 18) hx hb hts hin_X3 hown hK hP 0 rfl rfl 10 (by decide) hf_PressedPlainsModel_77 (fun _ h9 => h9) rfl dX3_lower_82 ?_
          refine pq_iald hx hb hK hP 9 0 rfl rfl L (by omega) (by decide) dX3_lower_85 ?_
          refine pq_top (nI (2 * e + 1)) hT ?_
          refine lv_iconst (v := 2) hx hb dX3_lower_86 (by decide) ?_
          refine lv_irem hx hb dX3_lower_87 (by decide) ?_
          refine pq_top (1) (pq_odd (by omega)) ?_
          refine lv_iconst (v := 1) hx hb dX3_lower_88 (by decide) ?_
          refine lv_icmp_ne (tgt := 101) hx hb dX3_lower_89 (by decide) (fun c9 => absurd c9 (by decide)) (fun _ => ?_)
          refine lv_aload_n hx hb dX3_lower_92 rfl (lv_at hl 1 rfl) ?_
          refine lv_iload hx hb dX3_lower_93 (lv_at hl 0 rfl) ?_
          refine pq_callV (wr := []) (own := RX3) (nL := 7) (q0 := 0) (ci := 3) [0, 1, 2, 3, 4, 5, 6, 7, 8, 9] [] [.int (nI e)] (mX3_tell l D cI mo z1 z2 z3 z4 z5 z6 z7 z8 z9 col hs cs fi la Y T (nI L) laid piled prs 0 e (by omega)) ⟨hx, hb, hml, hown, hts⟩ (cwV 1 hts gX3_lower_X3_tell rfl rfl rfl (by decide +kernel) ⟨by dsimp only [pq_R]; omega, by dsimp only [pq_R]; omega⟩) pq_bl0 (fun _ _ _ => trivial) hK hP hD hS hA rfl (by decide) rfl (by decide) (by decide) rfl rfl rfl rfl hl.1 rfl (Nat.le_of_ble_eq_true rfl) dX3_lower_95 ⟨by dsimp only [pq_R]; omega, by dsimp only [pq_R]; omega⟩ (fun v w1 H locs hq hP hD hS hz => ?_)
          obtain ⟨rfl, rfl⟩ := hq
          obtain ⟨B_9, hB_9⟩ : ∃ zz, zz = mTell Y e := ⟨_, rfl⟩
          rw [← hB_9] at hP hD
          have hP : va_P D vwCl [(mo, .inr (3, [.int col, .ref z1, .ref z2, .ref z3, .ref z4, .ref z5, .ref z6, .ref z7, .ref z8, .ref z9, .int (nI L), .int B_9.2.2.2.2.1, .int B_9.2.2.2.2.2.1, .int B_9.2.2.2.2.2.2, .int laid, .int piled, .int prs, .int 0])), (z1, .inl (cI, 64, .inl hs)), (z2, .inl (cI, 64, .inl cs)), (z3, .inl (cI, 128, .inl fi)), (z4, .inl (cI, 128, .inl la)), (z5, .inl (cI, 128, .inl B_9.1)), (z6, .inl (cI, 128, .inl B_9.2.1)), (z7, .inl (cI, 128, .inl B_9.2.2.1)), (z8, .inl (cI, 128, .inl B_9.2.2.2.1)), (z9, .inl (cI, 64, .inl T))] H := hP
          have hD : va_D A [(mo, .inr (3, [.int col, .ref z1, .ref z2, .ref z3, .ref z4, .ref z5, .ref z6, .ref z7, .ref z8, .ref z9, .int (nI L), .int B_9.2.2.2.2.1, .int B_9.2.2.2.2.2.1, .int B_9.2.2.2.2.2.2, .int laid, .int piled, .int prs, .int 0])), (z1, .inl (cI, 64, .inl hs)), (z2, .inl (cI, 64, .inl cs)), (z3, .inl (cI, 128, .inl fi)), (z4, .inl (cI, 128, .inl la)), (z5, .inl (cI, 128, .inl B_9.1)), (z6, .inl (cI, 128, .inl B_9.2.1)), (z7, .inl (cI, 128, .inl B_9.2.2.1)), (z8, .inl (cI, 128, .inl B_9.2.2.2.1)), (z9, .inl (cI, 64, .inl T))] := hD
          refine W.eq (g2 := F0 m 98 ls []) rfl ?_
          refine lv_goto (tgt := 246) hx hb dX3_lower_98 (by decide) ?_
          refine lv_goto (tgt := 47) hx hb dX3_lower_246 (by decide) ?_
          subst hB_9
          exact K T (fun _ _ => rfl) H locs ls hP hD hS (lv_sub hl [1, 2, 3, 4] rfl)
        have LS : ∀ (d e L : Nat) (Y : BK) (T : Nat → Int32), 1 ≤ e → e < 128 → 128 ≤ e * 2 ^ d → L + 2 * d ≤ 14 → fi e ≤ la e → T L = nI (2 * e) → (∀ T' : Nat → Int32, (∀ j, j < L → T' j = T j) → ∀ (H : Heap) (locs : List Loc) (ls : Array Slot), va_P D vwCl [(mo, .inr (3, [.int col, .ref z1, .ref z2, .ref z3, .ref z4, .ref z5, .ref z6, .ref z7, .ref z8, .ref z9, .int (nI L), .int ((mPress fi la (nI kf) (nI kt) c0 d Y e).2.2.2.2.1), .int ((mPress fi la (nI kf) (nI kt) c0 d Y e).2.2.2.2.2.1), .int ((mPress fi la (nI kf) (nI kt) c0 d Y e).2.2.2.2.2.2), .int laid, .int piled, .int prs, .int 0])), (z1, .inl (cI, 64, .inl hs)), (z2, .inl (cI, 64, .inl cs)), (z3, .inl (cI, 128, .inl fi)), (z4, .inl (cI, 128, .inl la)), (z5, .inl (cI, 128, .inl ((mPress fi la (nI kf) (nI kt) c0 d Y e).1))), (z6, .inl (cI, 128, .inl ((mPress fi la (nI kf) (nI kt) c0 d Y e).2.1))), (z7, .inl (cI, 128, .inl ((mPress fi la (nI kf) (nI kt) c0 d Y e).2.2.1))), (z8, .inl (cI, 128, .inl ((mPress fi la (nI kf) (nI kt) c0 d Y e).2.2.2.1))), (z9, .inl (cI, 64, .inl T'))] H → va_D A [(mo, .inr (3, [.int col, .ref z1, .ref z2, .ref z3, .ref z4, .ref z5, .ref z6, .ref z7, .ref z8, .ref z9, .int (nI L), .int ((mPress fi la (nI kf) (nI kt) c0 d Y e).2.2.2.2.1), .int ((mPress fi la (nI kf) (nI kt) c0 d Y e).2.2.2.2.2.1), .int ((mPress fi la (nI kf) (nI kt) c0 d Y e).2.2.2.2.2.2), .int laid, .int piled, .int prs, .int 0])), (z1, .inl (cI, 64, .inl hs)), (z2, .inl (cI, 64, .inl cs)), (z3, .inl (cI, 128, .inl fi)), (z4, .inl (cI, 128, .inl la)), (z5, .inl (cI, 128, .inl ((mPress fi la (nI kf) (nI kt) c0 d Y e).1))), (z6, .inl (cI, 128, .inl ((mPress fi la (nI kf) (nI kt) c0 d Y e).2.1))), (z7, .inl (cI, 128, .inl ((mPress fi la (nI kf) (nI kt) c0 d Y e).2.2.1))), (z8, .inl (cI, 128, .inl ((mPress fi la (nI kf) (nI kt) c0 d Y e).2.2.2.1))), (z9, .inl (cI, 64, .inl T'))] → va_S A s.heap H locs → lv_has ls 7 [(0, .ref mo), (1, .int (nI kf)), (2, .int (nI kt)), (3, .int c0)] → W p l ev (pq_R 3 66 0 0) s m args below meth cd H locs 0 0 Q (F0 m 47 ls [])) → ∀ (H : Heap) (locs : List Loc) (ls : Array Slot), va_P D vwCl [(mo, .inr (3, [.int col, .ref z1, .ref z2, .ref z3, .ref z4, .ref z5, .ref z6, .ref z7, .ref z8, .ref z9, .int (nI (L + 1)), .int Y.2.2.2.2.1, .int Y.2.2.2.2.2.1, .int Y.2.2.2.2.2.2, .int laid, .int piled, .int prs, .int 0])), (z1, .inl (cI, 64, .inl hs)), (z2, .inl (cI, 64, .inl cs)), (z3, .inl (cI, 128, .inl fi)), (z4, .inl (cI, 128, .inl la)), (z5, .inl (cI, 128, .inl Y.1)), (z6, .inl (cI, 128, .inl Y.2.1)), (z7, .inl (cI, 128, .inl Y.2.2.1)), (z8, .inl (cI, 128, .inl Y.2.2.2.1)), (z9, .inl (cI, 64, .inl T))] H → va_D A [(mo, .inr (3, [.int col, .ref z1, .ref z2, .ref z3, .ref z4, .ref z5, .ref z6, .ref z7, .ref z8, .ref z9, .int (nI (L + 1)), .int Y.2.2.2.2.1, .int Y.2.2.2.2.2.1, .int Y.2.2.2.2.2.2, .int laid, .int piled, .int prs, .int 0])), (z1, .inl (cI, 64, .inl hs)), (z2, .inl (cI, 64, .inl cs)), (z3, .inl (cI, 128, .inl fi)), (z4, .inl (cI, 128, .inl la)), (z5, .inl (cI, 128, .inl Y.1)), (z6, .inl (cI, 128, .inl Y.2.1)), (z7, .inl (cI, 128, .inl Y.2.2.1)), (z8, .inl (cI, 128, .inl Y.2.2.2.1)), (z9, .inl (cI, 64, .inl T))] → va_S A s.heap H locs → lv_has ls 7 [(0, .ref mo), (1, .int (nI kf)), (2, .int (nI kt)), (3, .int c0)] → W p l ev (pq_R 3 66 0 0) s m args below meth cd H locs 0 0 Q (F0 m 47 ls []) := by
          intro d
          induction d with
          | zero =>
            intro e L Y T h1 h2 h3
            simp only [Nat.pow_zero, Nat.mul_one] at h3
            omega
          | succ d ih =>
            intro e L Y T he1 he hd hL hex hT K H locs ls hP hD hS hl
            refine lv_aload_n hx hb dX3_lower_47 rfl (lv_at hl 0 rfl) ?_
            refine va_get (D := D) (ci := 3) (v := .int (nI (L + 1))) (C := RX3) (T := TX3) (N := 18) hx hb hts hin_X3 hown hK hP 0 rfl rfl 10 (by decide) hf_PressedPlainsModel_77 (fun _ h9 => h9) rfl dX3_lower_48 ?_
            refine lv_if_le (tgt := 249) hx hb dX3_lower_51 (by decide) (fun c9 => absurd c9 (nI_ge (a := 0) (b := (L + 1)) (by omega) (by omega))) (fun _ => ?_)
            refine lv_aload_n hx hb dX3_lower_54 rfl (lv_at hl 0 rfl) ?_
            refine lv_dup hx hb dX3_lower_55 rfl ?_
            refine va_get (D := D) (ci := 3) (v := .int (nI (L + 1))) (C := RX3) (T := TX3) (N := 18) hx hb hts hin_X3 hown hK hP 0 rfl rfl 10 (by decide) hf_PressedPlainsModel_77 (fun _ h9 => h9) rfl dX3_lower_56 ?_
            refine lv_iconst (v := 1) hx hb dX3_lower_59 (by decide) ?_
            refine lv_isub hx hb dX3_lower_60 ?_
            refine pq_top (nI L) (nI_pred _) ?_
            refine va_put (D := D) (ci := 3) (v := .int (nI L)) (ty := .int) (C := RX3) (T := TX3) (N := 18) hx hb hts hin_X3 tyX3 tyX3_ok nmX3 hown hK hP hD hS 0 rfl rfl 10 (by decide) hf_PressedPlainsModel_77 (fun _ h9 => h9) rfl (by decide +kernel) rfl rfl (Nat.le_of_ble_eq_true rfl) dX3_lower_61 (fun H locs hP hD hS => ?_)
            have hP : va_P D vwCl [(mo, .inr (3, [.int col, .ref z1, .ref z2, .ref z3, .ref z4, .ref z5, .ref z6, .ref z7, .ref z8, .ref z9, .int (nI L), .int Y.2.2.2.2.1, .int Y.2.2.2.2.2.1, .int Y.2.2.2.2.2.2, .int laid, .int piled, .int prs, .int 0])), (z1, .inl (cI, 64, .inl hs)), (z2, .inl (cI, 64, .inl cs)), (z3, .inl (cI, 128, .inl fi)), (z4, .inl (cI, 128, .inl la)), (z5, .inl (cI, 128, .inl Y.1)), (z6, .inl (cI, 128, .inl Y.2.1)), (z7, .inl (cI, 128, .inl Y.2.2.1)), (z8, .inl (cI, 128, .inl Y.2.2.2.1)), (z9, .inl (cI, 64, .inl T))] H := hP
            have hD : va_D A [(mo, .inr (3, [.int col, .ref z1, .ref z2, .ref z3, .ref z4, .ref z5, .ref z6, .ref z7, .ref z8, .ref z9, .int (nI L), .int Y.2.2.2.2.1, .int Y.2.2.2.2.2.1, .int Y.2.2.2.2.2.2, .int laid, .int piled, .int prs, .int 0])), (z1, .inl (cI, 64, .inl hs)), (z2, .inl (cI, 64, .inl cs)), (z3, .inl (cI, 128, .inl fi)), (z4, .inl (cI, 128, .inl la)), (z5, .inl (cI, 128, .inl Y.1)), (z6, .inl (cI, 128, .inl Y.2.1)), (z7, .inl (cI, 128, .inl Y.2.2.1)), (z8, .inl (cI, 128, .inl Y.2.2.2.1)), (z9, .inl (cI, 64, .inl T))] := hD
            refine lv_aload_n hx hb dX3_lower_64 rfl (lv_at hl 0 rfl) ?_
            refine va_get (D := D) (ci := 3) (v := .ref z9) (C := RX3) (T := TX3) (N := 18) hx hb hts hin_X3 hown hK hP 0 rfl rfl 9 (by decide) hf_PressedPlainsModel_34 (fun _ h9 => h9) rfl dX3_lower_65 ?_
            refine lv_aload_n hx hb dX3_lower_68 rfl (lv_at hl 0 rfl) ?_
            refine va_get (D := D) (ci := 3) (v := .int (nI L)) (C := RX3) (T := TX3) (N := 18) hx hb hts hin_X3 hown hK hP 0 rfl rfl 10 (by decide) hf_PressedPlainsModel_77 (fun _ h9 => h9) rfl dX3_lower_69 ?_
            refine pq_iald hx hb hK hP 9 0 rfl rfl L (by omega) (by decide) dX3_lower_72 ?_
            refine pq_top (nI (2 * e)) hT ?_
            refine lv_iconst (v := 2) hx hb dX3_lower_73 (by decide) ?_
            refine lv_idiv hx hb dX3_lower_74 (by decide) ?_
            refine pq_top (nI e) (pq_half (by omega)) ?_
            refine lv_istore (lv' := [(4, .int (nI e)), (0, .ref mo), (1, .int (nI kf)), (2, .int (nI kt)), (3, .int c0)]) hx hb dX3_lower_75 hl (by decide) rfl (fun ls hl => ?_)
            refine lv_aload_n hx hb dX3_lower_77 rfl (lv_at hl 1 rfl) ?_
            refine va_get (D := D) (ci := 3) (v := .ref z9) (C := RX3) (T := TX3) (N := 18) hx hb hts hin_X3 hown hK hP 0 rfl rfl 9 (by decide) hf_PressedPlainsModel_34 (fun _ h9 => h9) rfl dX3_lower_78 ?_
            refine lv_aload_n hx hb dX3_lower_81 rfl (lv_at hl 1 rfl) ?_
            refine va_get (D := D) (ci := 3) (v := .int (nI L)) (C := RX3) (T := TX3) (N := 18) hx hb hts hin_X3 hown hK hP 0 rfl rfl 10 (by decide) hf_PressedPlainsModel_77 (fun _ h9 => h9) rfl dX3_lower_82 ?_
            refine pq_iald hx hb hK hP 9 0 rfl rfl L (by omega) (by decide) dX3_lower_85 ?_
            refine pq_top (nI (2 * e)) hT ?_
            refine lv_iconst (v := 2) hx hb dX3_lower_86 (by decide) ?_
            refine lv_irem hx hb dX3_lower_87 (by decide) ?_
            refine pq_top (0) (pq_even (by omega)) ?_
            refine lv_iconst (v := 1) hx hb dX3_lower_88 (by decide) ?_
            refine lv_icmp_ne (tgt := 101) hx hb dX3_lower_89 (by decide) (fun _ => ?_) (fun c9 => absurd c9 (by decide))
            refine lv_aload_n hx hb dX3_lower_101 rfl (lv_at hl 1 rfl) ?_
            refine pq_callV (wr := []) (own := RX3) (nL := 7) (q0 := 0) (ci := 3) [0, 1, 2, 3, 4, 5, 6, 7, 8, 9] [] [] (mX3_visited l D cI mo z1 z2 z3 z4 z5 z6 z7 z8 z9 col hs cs fi la Y T (nI L) laid piled prs 0 ) ⟨hx, hb, hml, hown, hts⟩ (cwV 0 hts gX3_lower_X3_visited rfl rfl rfl (by decide +kernel) ⟨by dsimp only [pq_R]; omega, by dsimp only [pq_R]; omega⟩) pq_bl0 (fun _ _ _ => trivial) hK hP hD hS hA rfl (by decide) rfl (by decide) (by decide) rfl rfl rfl rfl hl.1 rfl (Nat.le_of_ble_eq_true rfl) dX3_lower_102 ⟨by dsimp only [pq_R]; omega, by dsimp only [pq_R]; omega⟩ (fun v w1 H locs hq hP hD hS hz => ?_)
            obtain ⟨rfl, rfl⟩ := hq
            obtain ⟨B_10, hB_10⟩ : ∃ zz, zz = bVisit Y := ⟨_, rfl⟩
            rw [← hB_10] at hP hD
            have hP : va_P D vwCl [(mo, .inr (3, [.int col, .ref z1, .ref z2, .ref z3, .ref z4, .ref z5, .ref z6, .ref z7, .ref z8, .ref z9, .int (nI L), .int B_10.2.2.2.2.1, .int B_10.2.2.2.2.2.1, .int B_10.2.2.2.2.2.2, .int laid, .int piled, .int prs, .int 0])), (z1, .inl (cI, 64, .inl hs)), (z2, .inl (cI, 64, .inl cs)), (z3, .inl (cI, 128, .inl fi)), (z4, .inl (cI, 128, .inl la)), (z5, .inl (cI, 128, .inl B_10.1)), (z6, .inl (cI, 128, .inl B_10.2.1)), (z7, .inl (cI, 128, .inl B_10.2.2.1)), (z8, .inl (cI, 128, .inl B_10.2.2.2.1)), (z9, .inl (cI, 64, .inl T))] H := hP
            have hD : va_D A [(mo, .inr (3, [.int col, .ref z1, .ref z2, .ref z3, .ref z4, .ref z5, .ref z6, .ref z7, .ref z8, .ref z9, .int (nI L), .int B_10.2.2.2.2.1, .int B_10.2.2.2.2.2.1, .int B_10.2.2.2.2.2.2, .int laid, .int piled, .int prs, .int 0])), (z1, .inl (cI, 64, .inl hs)), (z2, .inl (cI, 64, .inl cs)), (z3, .inl (cI, 128, .inl fi)), (z4, .inl (cI, 128, .inl la)), (z5, .inl (cI, 128, .inl B_10.1)), (z6, .inl (cI, 128, .inl B_10.2.1)), (z7, .inl (cI, 128, .inl B_10.2.2.1)), (z8, .inl (cI, 128, .inl B_10.2.2.2.1)), (z9, .inl (cI, 64, .inl T))] := hD
            refine W.eq (g2 := F0 m 105 ls []) rfl ?_
            have J11 : ∀ (v : Int32), v = (if mNo fi la e (nI kf) (nI kt) ∨ ¬ c0 < B_10.1 e then 1 else 0) → ∀ (H : Heap) (locs : List Loc) (ls : Array Slot), va_P D vwCl [(mo, .inr (3, [.int col, .ref z1, .ref z2, .ref z3, .ref z4, .ref z5, .ref z6, .ref z7, .ref z8, .ref z9, .int (nI L), .int B_10.2.2.2.2.1, .int B_10.2.2.2.2.2.1, .int B_10.2.2.2.2.2.2, .int laid, .int piled, .int prs, .int 0])), (z1, .inl (cI, 64, .inl hs)), (z2, .inl (cI, 64, .inl cs)), (z3, .inl (cI, 128, .inl fi)), (z4, .inl (cI, 128, .inl la)), (z5, .inl (cI, 128, .inl B_10.1)), (z6, .inl (cI, 128, .inl B_10.2.1)), (z7, .inl (cI, 128, .inl B_10.2.2.1)), (z8, .inl (cI, 128, .inl B_10.2.2.2.1)), (z9, .inl (cI, 64, .inl T))] H → va_D A [(mo, .inr (3, [.int col, .ref z1, .ref z2, .ref z3, .ref z4, .ref z5, .ref z6, .ref z7, .ref z8, .ref z9, .int (nI L), .int B_10.2.2.2.2.1, .int B_10.2.2.2.2.2.1, .int B_10.2.2.2.2.2.2, .int laid, .int piled, .int prs, .int 0])), (z1, .inl (cI, 64, .inl hs)), (z2, .inl (cI, 64, .inl cs)), (z3, .inl (cI, 128, .inl fi)), (z4, .inl (cI, 128, .inl la)), (z5, .inl (cI, 128, .inl B_10.1)), (z6, .inl (cI, 128, .inl B_10.2.1)), (z7, .inl (cI, 128, .inl B_10.2.2.1)), (z8, .inl (cI, 128, .inl B_10.2.2.2.1)), (z9, .inl (cI, 64, .inl T))] → va_S A s.heap H locs → lv_has ls 7 [(4, .int (nI e)), (0, .ref mo), (1, .int (nI kf)), (2, .int (nI kt)), (3, .int c0)] → W p l ev (pq_R 3 66 0 0) s m args below meth cd H locs 0 0 Q (F0 m 143 ls [.int v]) := by
              intro v hv H locs ls hP hD hS hl
              by_cases j_11 : mNo fi la e (nI kf) (nI kt) ∨ ¬ c0 < B_10.1 e
              · rw [if_pos j_11] at hv
                subst hv
                refine lv_istore (lv' := [(5, .int 1), (4, .int (nI e)), (0, .ref mo), (1, .int (nI kf)), (2, .int (nI kt)), (3, .int c0)]) hx hb dX3_lower_143 hl (by decide) rfl (fun ls hl => ?_)
                have J12 : ∀ (v : Int32), v = (if mAll fi la e (nI kf) (nI kt) ∧ ¬ c0 ≤ B_10.2.1 e then 1 else 0) → ∀ (H : Heap) (locs : List Loc) (ls : Array Slot), va_P D vwCl [(mo, .inr (3, [.int col, .ref z1, .ref z2, .ref z3, .ref z4, .ref z5, .ref z6, .ref z7, .ref z8, .ref z9, .int (nI L), .int B_10.2.2.2.2.1, .int B_10.2.2.2.2.2.1, .int B_10.2.2.2.2.2.2, .int laid, .int piled, .int prs, .int 0])), (z1, .inl (cI, 64, .inl hs)), (z2, .inl (cI, 64, .inl cs)), (z3, .inl (cI, 128, .inl fi)), (z4, .inl (cI, 128, .inl la)), (z5, .inl (cI, 128, .inl B_10.1)), (z6, .inl (cI, 128, .inl B_10.2.1)), (z7, .inl (cI, 128, .inl B_10.2.2.1)), (z8, .inl (cI, 128, .inl B_10.2.2.2.1)), (z9, .inl (cI, 64, .inl T))] H → va_D A [(mo, .inr (3, [.int col, .ref z1, .ref z2, .ref z3, .ref z4, .ref z5, .ref z6, .ref z7, .ref z8, .ref z9, .int (nI L), .int B_10.2.2.2.2.1, .int B_10.2.2.2.2.2.1, .int B_10.2.2.2.2.2.2, .int laid, .int piled, .int prs, .int 0])), (z1, .inl (cI, 64, .inl hs)), (z2, .inl (cI, 64, .inl cs)), (z3, .inl (cI, 128, .inl fi)), (z4, .inl (cI, 128, .inl la)), (z5, .inl (cI, 128, .inl B_10.1)), (z6, .inl (cI, 128, .inl B_10.2.1)), (z7, .inl (cI, 128, .inl B_10.2.2.1)), (z8, .inl (cI, 128, .inl B_10.2.2.2.1)), (z9, .inl (cI, 64, .inl T))] → va_S A s.heap H locs → lv_has ls 7 [(5, .int 1), (4, .int (nI e)), (0, .ref mo), (1, .int (nI kf)), (2, .int (nI kt)), (3, .int c0)] → W p l ev (pq_R 3 66 0 0) s m args below meth cd H locs 0 0 Q (F0 m 183 ls [.int v]) := by
                  intro v hv H locs ls hP hD hS hl
                  by_cases j_12 : mAll fi la e (nI kf) (nI kt) ∧ ¬ c0 ≤ B_10.2.1 e
                  · rw [if_pos j_12] at hv
                    subst hv
                    refine lv_istore (lv' := [(6, .int 1), (5, .int 1), (4, .int (nI e)), (0, .ref mo), (1, .int (nI kf)), (2, .int (nI kt)), (3, .int c0)]) hx hb dX3_lower_183 hl (by decide) rfl (fun ls hl => ?_)
                    refine lv_iload hx hb dX3_lower_185 (lv_at hl 0 rfl) ?_
                    refine lv_if_ne (tgt := 207) hx hb dX3_lower_187 (by decide) (fun _ => ?_) (fun c9 => absurd c9 (by decide))
                    refine lv_iconst (v := 1) hx hb dX3_lower_207 (by decide) ?_
                    refine lv_goto (tgt := 212) hx hb dX3_lower_208 (by decide) ?_
                    refine lv_istore (lv' := [(6, .int 1), (5, .int 1), (4, .int (nI e)), (0, .ref mo), (1, .int (nI kf)), (2, .int (nI kt)), (3, .int c0)]) hx hb dX3_lower_212 hl (by decide) rfl (fun ls hl => ?_)
                    refine lv_iload hx hb dX3_lower_214 (lv_at hl 1 rfl) ?_
                    refine lv_if_ne (tgt := 234) hx hb dX3_lower_216 (by decide) (fun _ => ?_) (fun c9 => absurd c9 (by decide))
                    refine lv_iload hx hb dX3_lower_234 (lv_at hl 1 rfl) ?_
                    refine lv_if_ne (tgt := 246) hx hb dX3_lower_236 (by decide) (fun _ => ?_) (fun c9 => absurd c9 (by decide))
                    refine lv_goto (tgt := 47) hx hb dX3_lower_246 (by decide) ?_
                    subst hB_10
                    have hm : mPress fi la (nI kf) (nI kt) c0 (d + 1) Y e = bVisit Y := by rw [mPress, if_pos j_11]
                    rw [hm] at K
                    exact K T (fun _ _ => rfl) H locs ls hP hD hS (lv_sub hl [3, 4, 5, 6] rfl)
                  · rw [if_neg j_12] at hv
                    subst hv
                    refine lv_istore (lv' := [(6, .int 0), (5, .int 1), (4, .int (nI e)), (0, .ref mo), (1, .int (nI kf)), (2, .int (nI kt)), (3, .int c0)]) hx hb dX3_lower_183 hl (by decide) rfl (fun ls hl => ?_)
                    refine lv_iload hx hb dX3_lower_185 (lv_at hl 0 rfl) ?_
                    refine lv_if_ne (tgt := 207) hx hb dX3_lower_187 (by decide) (fun c9 => absurd c9 (by decide)) (fun _ => ?_)
                    refine lv_aload_n hx hb dX3_lower_190 rfl (lv_at hl 3 rfl) ?_
                    refine va_get (D := D) (ci := 3) (v := .ref z3) (C := RX3) (T := TX3) (N := 18) hx hb hts hin_X3 hown hK hP 0 rfl rfl 3 (by decide) hf_PressedPlainsModel_16 (fun _ h9 => h9) rfl dX3_lower_191 ?_
                    refine lv_iload hx hb dX3_lower_194 (lv_at hl 2 rfl) ?_
                    refine pq_iald hx hb hK hP 3 0 rfl rfl e (by omega) (by decide) dX3_lower_196 ?_
                    refine lv_aload_n hx hb dX3_lower_197 rfl (lv_at hl 3 rfl) ?_
                    refine va_get (D := D) (ci := 3) (v := .ref z4) (C := RX3) (T := TX3) (N := 18) hx hb hts hin_X3 hown hK hP 0 rfl rfl 4 (by decide) hf_PressedPlainsModel_19 (fun _ h9 => h9) rfl dX3_lower_198 ?_
                    refine lv_iload hx hb dX3_lower_201 (lv_at hl 2 rfl) ?_
                    refine pq_iald hx hb hK hP 4 0 rfl rfl e (by omega) (by decide) dX3_lower_203 ?_
                    refine lv_icmp_ne (tgt := 211) hx hb dX3_lower_204 (by decide) (fun c_13 => ?_) (fun c_13 => ?_)
                    · refine lv_iconst (v := 0) hx hb dX3_lower_211 (by decide) ?_
                      refine lv_istore (lv' := [(6, .int 0), (5, .int 1), (4, .int (nI e)), (0, .ref mo), (1, .int (nI kf)), (2, .int (nI kt)), (3, .int c0)]) hx hb dX3_lower_212 hl (by decide) rfl (fun ls hl => ?_)
                      refine lv_iload hx hb dX3_lower_214 (lv_at hl 1 rfl) ?_
                      refine lv_if_ne (tgt := 234) hx hb dX3_lower_216 (by decide) (fun _ => ?_) (fun c9 => absurd c9 (by decide))
                      refine lv_iload hx hb dX3_lower_234 (lv_at hl 1 rfl) ?_
                      refine lv_if_ne (tgt := 246) hx hb dX3_lower_236 (by decide) (fun _ => ?_) (fun c9 => absurd c9 (by decide))
                      refine lv_goto (tgt := 47) hx hb dX3_lower_246 (by decide) ?_
                      subst hB_10
                      have hm : mPress fi la (nI kf) (nI kt) c0 (d + 1) Y e = bVisit Y := by rw [mPress, if_pos j_11]
                      rw [hm] at K
                      exact K T (fun _ _ => rfl) H locs ls hP hD hS (lv_sub hl [3, 4, 5, 6] rfl)
                    · refine lv_iconst (v := 1) hx hb dX3_lower_207 (by decide) ?_
                      refine lv_goto (tgt := 212) hx hb dX3_lower_208 (by decide) ?_
                      refine lv_istore (lv' := [(6, .int 1), (5, .int 1), (4, .int (nI e)), (0, .ref mo), (1, .int (nI kf)), (2, .int (nI kt)), (3, .int c0)]) hx hb dX3_lower_212 hl (by decide) rfl (fun ls hl => ?_)
                      refine lv_iload hx hb dX3_lower_214 (lv_at hl 1 rfl) ?_
                      refine lv_if_ne (tgt := 234) hx hb dX3_lower_216 (by decide) (fun _ => ?_) (fun c9 => absurd c9 (by decide))
                      refine lv_iload hx hb dX3_lower_234 (lv_at hl 1 rfl) ?_
                      refine lv_if_ne (tgt := 246) hx hb dX3_lower_236 (by decide) (fun _ => ?_) (fun c9 => absurd c9 (by decide))
                      refine lv_goto (tgt := 47) hx hb dX3_lower_246 (by decide) ?_
                      subst hB_10
                      have hm : mPress fi la (nI kf) (nI kt) c0 (d + 1) Y e = bVisit Y := by rw [mPress, if_pos j_11]
                      rw [hm] at K
                      exact K T (fun _ _ => rfl) H locs ls hP hD hS (lv_sub hl [3, 4, 5, 6] rfl)
                refine lv_aload_n hx hb dX3_lower_145 rfl (lv_at hl 2 rfl) ?_
                refine va_get (D := D) (ci := 3) (v := .ref z3) (C := RX3) (T := TX3) (N := 18) hx hb hts hin_X3 hown hK hP 0 rfl rfl 3 (by decide) hf_PressedPlainsModel_16 (fun _ h9 => h9) rfl dX3_lower_146 ?_
                refine lv_iload hx hb dX3_lower_149 (lv_at hl 1 rfl) ?_
                refine pq_iald hx hb hK hP 3 0 rfl rfl e (by omega) (by decide) dX3_lower_151 ?_
                refine lv_iload_n hx hb dX3_lower_152 rfl (lv_at hl 3 rfl) ?_
                refine lv_icmp_lt (tgt := 182) hx hb dX3_lower_153 (by decide) (fun c_14 => ?_) (fun c_14 => ?_)
                · refine lv_iconst (v := 0) hx hb dX3_lower_182 (by decide) ?_
                  exact J12 _ (by rw [if_neg (show ¬ (mAll fi la e (nI kf) (nI kt) ∧ ¬ c0 ≤ B_10.2.1 e) from fun h => h.1.1 c_14)]) H locs ls hP hD hS hl
                · refine lv_aload_n hx hb dX3_lower_156 rfl (lv_at hl 2 rfl) ?_
                  refine va_get (D := D) (ci := 3) (v := .ref z4) (C := RX3) (T := TX3) (N := 18) hx hb hts hin_X3 hown hK hP 0 rfl rfl 4 (by decide) hf_PressedPlainsModel_19 (fun _ h9 => h9) rfl dX3_lower_157 ?_
                  refine lv_iload hx hb dX3_lower_160 (lv_at hl 1 rfl) ?_
                  refine pq_iald hx hb hK hP 4 0 rfl rfl e (by omega) (by decide) dX3_lower_162 ?_
                  refine lv_iload_n hx hb dX3_lower_163 rfl (lv_at hl 4 rfl) ?_
                  refine lv_icmp_gt (tgt := 182) hx hb dX3_lower_164 (by decide) (fun c_15 => ?_) (fun c_15 => ?_)
                  · refine lv_iconst (v := 0) hx hb dX3_lower_182 (by decide) ?_
                    exact J12 _ (by rw [if_neg (show ¬ (mAll fi la e (nI kf) (nI kt) ∧ ¬ c0 ≤ B_10.2.1 e) from fun h => h.1.2 c_15)]) H locs ls hP hD hS hl
                  · refine lv_aload_n hx hb dX3_lower_167 rfl (lv_at hl 2 rfl) ?_
                    refine va_get (D := D) (ci := 3) (v := .ref z6) (C := RX3) (T := TX3) (N := 18) hx hb hts hin_X3 hown hK hP 0 rfl rfl 6 (by decide) hf_PressedPlainsModel_25 (fun _ h9 => h9) rfl dX3_lower_168 ?_
                    refine lv_iload hx hb dX3_lower_171 (lv_at hl 1 rfl) ?_
                    refine pq_iald hx hb hK hP 6 0 rfl rfl e (by omega) (by decide) dX3_lower_173 ?_
                    refine lv_iload_n hx hb dX3_lower_174 rfl (lv_at hl 5 rfl) ?_
                    refine lv_icmp_ge (tgt := 182) hx hb dX3_lower_175 (by decide) (fun c_16 => ?_) (fun c_16 => ?_)
                    · refine lv_iconst (v := 0) hx hb dX3_lower_182 (by decide) ?_
                      exact J12 _ (by rw [if_neg (show ¬ (mAll fi la e (nI kf) (nI kt) ∧ ¬ c0 ≤ B_10.2.1 e) from fun h => h.2 c_16)]) H locs ls hP hD hS hl
                    · refine lv_iconst (v := 1) hx hb dX3_lower_178 (by decide) ?_
                      refine lv_goto (tgt := 183) hx hb dX3_lower_179 (by decide) ?_
                      exact J12 _ (by rw [if_pos (show mAll fi la e (nI kf) (nI kt) ∧ ¬ c0 ≤ B_10.2.1 e from ⟨⟨c_14, c_15⟩, c_16⟩)]) H locs ls hP hD hS hl
              · rw [if_neg j_11] at hv
                subst hv
                refine lv_istore (lv' := [(5, .int 0), (4, .int (nI e)), (0, .ref mo), (1, .int (nI kf)), (2, .int (nI kt)), (3, .int c0)]) hx hb dX3_lower_143 hl (by decide) rfl (fun ls hl => ?_)
                have J17 : ∀ (v : Int32), v = (if mAll fi la e (nI kf) (nI kt) ∧ ¬ c0 ≤ B_10.2.1 e then 1 else 0) → ∀ (H : Heap) (locs : List Loc) (ls : Array Slot), va_P D vwCl [(mo, .inr (3, [.int col, .ref z1, .ref z2, .ref z3, .ref z4, .ref z5, .ref z6, .ref z7, .ref z8, .ref z9, .int (nI L), .int B_10.2.2.2.2.1, .int B_10.2.2.2.2.2.1, .int B_10.2.2.2.2.2.2, .int laid, .int piled, .int prs, .int 0])), (z1, .inl (cI, 64, .inl hs)), (z2, .inl (cI, 64, .inl cs)), (z3, .inl (cI, 128, .inl fi)), (z4, .inl (cI, 128, .inl la)), (z5, .inl (cI, 128, .inl B_10.1)), (z6, .inl (cI, 128, .inl B_10.2.1)), (z7, .inl (cI, 128, .inl B_10.2.2.1)), (z8, .inl (cI, 128, .inl B_10.2.2.2.1)), (z9, .inl (cI, 64, .inl T))] H → va_D A [(mo, .inr (3, [.int col, .ref z1, .ref z2, .ref z3, .ref z4, .ref z5, .ref z6, .ref z7, .ref z8, .ref z9, .int (nI L), .int B_10.2.2.2.2.1, .int B_10.2.2.2.2.2.1, .int B_10.2.2.2.2.2.2, .int laid, .int piled, .int prs, .int 0])), (z1, .inl (cI, 64, .inl hs)), (z2, .inl (cI, 64, .inl cs)), (z3, .inl (cI, 128, .inl fi)), (z4, .inl (cI, 128, .inl la)), (z5, .inl (cI, 128, .inl B_10.1)), (z6, .inl (cI, 128, .inl B_10.2.1)), (z7, .inl (cI, 128, .inl B_10.2.2.1)), (z8, .inl (cI, 128, .inl B_10.2.2.2.1)), (z9, .inl (cI, 64, .inl T))] → va_S A s.heap H locs → lv_has ls 7 [(5, .int 0), (4, .int (nI e)), (0, .ref mo), (1, .int (nI kf)), (2, .int (nI kt)), (3, .int c0)] → W p l ev (pq_R 3 66 0 0) s m args below meth cd H locs 0 0 Q (F0 m 183 ls [.int v]) := by
                  intro v hv H locs ls hP hD hS hl
                  by_cases j_17 : mAll fi la e (nI kf) (nI kt) ∧ ¬ c0 ≤ B_10.2.1 e
                  · rw [if_pos j_17] at hv
                    subst hv
                    refine lv_istore (lv' := [(6, .int 1), (5, .int 0), (4, .int (nI e)), (0, .ref mo), (1, .int (nI kf)), (2, .int (nI kt)), (3, .int c0)]) hx hb dX3_lower_183 hl (by decide) rfl (fun ls hl => ?_)
                    refine lv_iload hx hb dX3_lower_185 (lv_at hl 0 rfl) ?_
                    refine lv_if_ne (tgt := 207) hx hb dX3_lower_187 (by decide) (fun _ => ?_) (fun c9 => absurd c9 (by decide))
                    refine lv_iconst (v := 1) hx hb dX3_lower_207 (by decide) ?_
                    refine lv_goto (tgt := 212) hx hb dX3_lower_208 (by decide) ?_
                    refine lv_istore (lv' := [(6, .int 1), (5, .int 0), (4, .int (nI e)), (0, .ref mo), (1, .int (nI kf)), (2, .int (nI kt)), (3, .int c0)]) hx hb dX3_lower_212 hl (by decide) rfl (fun ls hl => ?_)
                    refine lv_iload hx hb dX3_lower_214 (lv_at hl 1 rfl) ?_
                    refine lv_if_ne (tgt := 234) hx hb dX3_lower_216 (by decide) (fun c9 => absurd c9 (by decide)) (fun _ => ?_)
                    refine lv_iload hx hb dX3_lower_219 (lv_at hl 0 rfl) ?_
                    refine lv_if_eq (tgt := 234) hx hb dX3_lower_221 (by decide) (fun c9 => absurd c9 (by decide)) (fun _ => ?_)
                    refine lv_aload_n hx hb dX3_lower_224 rfl (lv_at hl 3 rfl) ?_
                    refine lv_iload hx hb dX3_lower_225 (lv_at hl 2 rfl) ?_
                    refine lv_iload_n hx hb dX3_lower_227 rfl (lv_at hl 6 rfl) ?_
                    refine pq_callV (wr := []) (own := RX3) (nL := 7) (q0 := 0) (ci := 3) [0, 1, 2, 3, 4, 5, 6, 7, 8, 9] [] [.int (nI e), .int c0] (mX3_press l D cI mo z1 z2 z3 z4 z5 z6 z7 z8 z9 col hs cs fi la B_10 T (nI L) laid piled prs 0 e c0 (by omega)) ⟨hx, hb, hml, hown, hts⟩ (cwV 2 hts gX3_lower_X3_press rfl rfl rfl (by decide +kernel) ⟨by dsimp only [pq_R]; omega, by dsimp only [pq_R]; omega⟩) pq_bl0 (fun _ _ _ => trivial) hK hP hD hS hA rfl (by decide) rfl (by decide) (by decide) rfl rfl rfl rfl hl.1 rfl (Nat.le_of_ble_eq_true rfl) dX3_lower_228 ⟨by dsimp only [pq_R]; omega, by dsimp only [pq_R]; omega⟩ (fun v w1 H locs hq hP hD hS hz => ?_)
                    obtain ⟨rfl, rfl⟩ := hq
                    obtain ⟨B_18, hB_18⟩ : ∃ zz, zz = bPress B_10 e c0 := ⟨_, rfl⟩
                    rw [← hB_18] at hP hD
                    have hP : va_P D vwCl [(mo, .inr (3, [.int col, .ref z1, .ref z2, .ref z3, .ref z4, .ref z5, .ref z6, .ref z7, .ref z8, .ref z9, .int (nI L), .int B_18.2.2.2.2.1, .int B_18.2.2.2.2.2.1, .int B_18.2.2.2.2.2.2, .int laid, .int piled, .int prs, .int 0])), (z1, .inl (cI, 64, .inl hs)), (z2, .inl (cI, 64, .inl cs)), (z3, .inl (cI, 128, .inl fi)), (z4, .inl (cI, 128, .inl la)), (z5, .inl (cI, 128, .inl B_18.1)), (z6, .inl (cI, 128, .inl B_18.2.1)), (z7, .inl (cI, 128, .inl B_18.2.2.1)), (z8, .inl (cI, 128, .inl B_18.2.2.2.1)), (z9, .inl (cI, 64, .inl T))] H := hP
                    have hD : va_D A [(mo, .inr (3, [.int col, .ref z1, .ref z2, .ref z3, .ref z4, .ref z5, .ref z6, .ref z7, .ref z8, .ref z9, .int (nI L), .int B_18.2.2.2.2.1, .int B_18.2.2.2.2.2.1, .int B_18.2.2.2.2.2.2, .int laid, .int piled, .int prs, .int 0])), (z1, .inl (cI, 64, .inl hs)), (z2, .inl (cI, 64, .inl cs)), (z3, .inl (cI, 128, .inl fi)), (z4, .inl (cI, 128, .inl la)), (z5, .inl (cI, 128, .inl B_18.1)), (z6, .inl (cI, 128, .inl B_18.2.1)), (z7, .inl (cI, 128, .inl B_18.2.2.1)), (z8, .inl (cI, 128, .inl B_18.2.2.2.1)), (z9, .inl (cI, 64, .inl T))] := hD
                    refine W.eq (g2 := F0 m 231 ls []) rfl ?_
                    refine lv_goto (tgt := 246) hx hb dX3_lower_231 (by decide) ?_
                    refine lv_goto (tgt := 47) hx hb dX3_lower_246 (by decide) ?_
                    subst hB_18
                    subst hB_10
                    have hm : mPress fi la (nI kf) (nI kt) c0 (d + 1) Y e = bPress (bVisit Y) e c0 := by rw [mPress, if_neg j_11, if_pos (Or.inl j_17)]
                    rw [hm] at K
                    exact K T (fun _ _ => rfl) H locs ls hP hD hS (lv_sub hl [3, 4, 5, 6] rfl)
                  · rw [if_neg j_17] at hv
                    subst hv
                    refine lv_istore (lv' := [(6, .int 0), (5, .int 0), (4, .int (nI e)), (0, .ref mo), (1, .int (nI kf)), (2, .int (nI kt)), (3, .int c0)]) hx hb dX3_lower_183 hl (by decide) rfl (fun ls hl => ?_)
                    refine lv_iload hx hb dX3_lower_185 (lv_at hl 0 rfl) ?_
                    refine lv_if_ne (tgt := 207) hx hb dX3_lower_187 (by decide) (fun c9 => absurd c9 (by decide)) (fun _ => ?_)
                    refine lv_aload_n hx hb dX3_lower_190 rfl (lv_at hl 3 rfl) ?_
                    refine va_get (D := D) (ci := 3) (v := .ref z3) (C := RX3) (T := TX3) (N := 18) hx hb hts hin_X3 hown hK hP 0 rfl rfl 3 (by decide) hf_PressedPlainsModel_16 (fun _ h9 => h9) rfl dX3_lower_191 ?_
                    refine lv_iload hx hb dX3_lower_194 (lv_at hl 2 rfl) ?_
                    refine pq_iald hx hb hK hP 3 0 rfl rfl e (by omega) (by decide) dX3_lower_196 ?_
                    refine lv_aload_n hx hb dX3_lower_197 rfl (lv_at hl 3 rfl) ?_
                    refine va_get (D := D) (ci := 3) (v := .ref z4) (C := RX3) (T := TX3) (N := 18) hx hb hts hin_X3 hown hK hP 0 rfl rfl 4 (by decide) hf_PressedPlainsModel_19 (fun _ h9 => h9) rfl dX3_lower_198 ?_
                    refine lv_iload hx hb dX3_lower_201 (lv_at hl 2 rfl) ?_
                    refine pq_iald hx hb hK hP 4 0 rfl rfl e (by omega) (by decide) dX3_lower_203 ?_
                    refine lv_icmp_ne (tgt := 211) hx hb dX3_lower_204 (by decide) (fun c_19 => ?_) (fun c_19 => ?_)
                    · refine lv_iconst (v := 0) hx hb dX3_lower_211 (by decide) ?_
                      refine lv_istore (lv' := [(6, .int 0), (5, .int 0), (4, .int (nI e)), (0, .ref mo), (1, .int (nI kf)), (2, .int (nI kt)), (3, .int c0)]) hx hb dX3_lower_212 hl (by decide) rfl (fun ls hl => ?_)
                      refine lv_iload hx hb dX3_lower_214 (lv_at hl 1 rfl) ?_
                      refine lv_if_ne (tgt := 234) hx hb dX3_lower_216 (by decide) (fun c9 => absurd c9 (by decide)) (fun _ => ?_)
                      refine lv_iload hx hb dX3_lower_219 (lv_at hl 0 rfl) ?_
                      refine lv_if_eq (tgt := 234) hx hb dX3_lower_221 (by decide) (fun _ => ?_) (fun c9 => absurd c9 (by decide))
                      refine lv_iload hx hb dX3_lower_234 (lv_at hl 1 rfl) ?_
                      refine lv_if_ne (tgt := 246) hx hb dX3_lower_236 (by decide) (fun c9 => absurd c9 (by decide)) (fun _ => ?_)
                      have hnl : ¬ la e ≤ fi e := pq_lt_of hex c_19
                      have he64 : e < 64 := hsp e he hnl
                      have hcc := hch e he1 he64 hnl
                      refine lv_aload_n hx hb dX3_lower_239 rfl (lv_at hl 3 rfl) ?_
                      refine lv_iload hx hb dX3_lower_240 (lv_at hl 2 rfl) ?_
                      refine lv_iconst (v := 1) hx hb dX3_lower_242 (by decide) ?_
                      refine pq_callV (wr := []) (own := RX3) (nL := 7) (q0 := 0) (ci := 3) [0, 1, 2, 3, 4, 5, 6, 7, 8, 9] [] [.int (nI e), .int 1] (mX3_goesBelow1 l D cI mo z1 z2 z3 z4 z5 z6 z7 z8 z9 col hs cs fi la B_10 T (nI L) laid piled prs 0 e L (by omega) (by omega)) ⟨hx, hb, hml, hown, hts⟩ (cwV 2 hts gX3_lower_X3_goesBelow rfl rfl rfl (by decide +kernel) ⟨by dsimp only [pq_R]; omega, by dsimp only [pq_R]; omega⟩) pq_bl0 (fun _ _ _ => trivial) hK hP hD hS hA rfl (by decide) rfl (by decide) (by decide) rfl rfl rfl rfl hl.1 rfl (Nat.le_of_ble_eq_true rfl) dX3_lower_243 ⟨by dsimp only [pq_R]; omega, by dsimp only [pq_R]; omega⟩ (fun v w1 H locs hq hP hD hS hz => ?_)
                      obtain ⟨rfl, rfl⟩ := hq
                      obtain ⟨B_20, hB_20⟩ : ∃ zz, zz = mCatch2 B_10 e := ⟨_, rfl⟩
                      rw [← hB_20] at hP hD
                      have hP : va_P D vwCl [(mo, .inr (3, [.int col, .ref z1, .ref z2, .ref z3, .ref z4, .ref z5, .ref z6, .ref z7, .ref z8, .ref z9, .int (nI (L + 3)), .int B_20.2.2.2.2.1, .int B_20.2.2.2.2.2.1, .int B_20.2.2.2.2.2.2, .int laid, .int piled, .int prs, .int 0])), (z1, .inl (cI, 64, .inl hs)), (z2, .inl (cI, 64, .inl cs)), (z3, .inl (cI, 128, .inl fi)), (z4, .inl (cI, 128, .inl la)), (z5, .inl (cI, 128, .inl B_20.1)), (z6, .inl (cI, 128, .inl B_20.2.1)), (z7, .inl (cI, 128, .inl B_20.2.2.1)), (z8, .inl (cI, 128, .inl B_20.2.2.2.1)), (z9, .inl (cI, 64, .inl (upd (upd (upd T L (nI (2 * e + 1))) (L + 1) (nI (2 * (2 * e + 1)))) (L + 2) (nI (2 * (2 * e))))))] H := hP
                      have hD : va_D A [(mo, .inr (3, [.int col, .ref z1, .ref z2, .ref z3, .ref z4, .ref z5, .ref z6, .ref z7, .ref z8, .ref z9, .int (nI (L + 3)), .int B_20.2.2.2.2.1, .int B_20.2.2.2.2.2.1, .int B_20.2.2.2.2.2.2, .int laid, .int piled, .int prs, .int 0])), (z1, .inl (cI, 64, .inl hs)), (z2, .inl (cI, 64, .inl cs)), (z3, .inl (cI, 128, .inl fi)), (z4, .inl (cI, 128, .inl la)), (z5, .inl (cI, 128, .inl B_20.1)), (z6, .inl (cI, 128, .inl B_20.2.1)), (z7, .inl (cI, 128, .inl B_20.2.2.1)), (z8, .inl (cI, 128, .inl B_20.2.2.2.1)), (z9, .inl (cI, 64, .inl (upd (upd (upd T L (nI (2 * e + 1))) (L + 1) (nI (2 * (2 * e + 1)))) (L + 2) (nI (2 * (2 * e))))))] := hD
                      refine W.eq (g2 := F0 m 246 ls []) rfl ?_
                      refine lv_goto (tgt := 47) hx hb dX3_lower_246 (by decide) ?_
                      subst hB_20
                      subst hB_10
                      have hm : mPress fi la (nI kf) (nI kt) c0 (d + 1) Y e = mTell (mPress fi la (nI kf) (nI kt) c0 d (mPress fi la (nI kf) (nI kt) c0 d (mCatch2 (bVisit Y) e) (2 * e)) (2 * e + 1)) e := by rw [mPress, if_neg j_11, if_neg (fun h => h.elim j_17 c_19)]
                      rw [hm] at K
                      refine ih (2 * e) (L + 2) (mCatch2 (bVisit Y) e) (upd (upd (upd T L (nI (2 * e + 1))) (L + 1) (nI (2 * (2 * e + 1)))) (L + 2) (nI (2 * (2 * e)))) (by omega) (by omega) (pw_1 hd) (by omega) hcc.1 pk_us (fun T1 hT1 => ?_) H locs ls hP hD hS (lv_sub hl [3, 4, 5, 6] rfl)
                      refine ih (2 * e + 1) (L + 1) (mPress fi la (nI kf) (nI kt) c0 d (mCatch2 (bVisit Y) e) (2 * e)) T1 (by omega) (by omega) (pw_2 hd) (by omega) hcc.2 ((hT1 (L + 1) (by omega)).trans ((pk_un (by omega)).trans  pk_us)) (fun T2 hT2 => ?_)
                      refine LT e L _ T2 he64 (by omega) ((hT2 L (by omega)).trans ((hT1 L (by omega)).trans ((pk_un (by omega)).trans ((pk_un (by omega)).trans  pk_us)))) (fun T3 hT3 => ?_)
                      exact K T3 (fun j hj => (hT3 j hj).trans ((hT2 j (by omega)).trans ((hT1 j (by omega)).trans ((pk_un (by omega)).trans ((pk_un (by omega)).trans (pk_un (by omega)))))))
                    · refine lv_iconst (v := 1) hx hb dX3_lower_207 (by decide) ?_
                      refine lv_goto (tgt := 212) hx hb dX3_lower_208 (by decide) ?_
                      refine lv_istore (lv' := [(6, .int 1), (5, .int 0), (4, .int (nI e)), (0, .ref mo), (1, .int (nI kf)), (2, .int (nI kt)), (3, .int c0)]) hx hb dX3_lower_212 hl (by decide) rfl (fun ls hl => ?_)
                      refine lv_iload hx hb dX3_lower_214 (lv_at hl 1 rfl) ?_
                      refine lv_if_ne (tgt := 234) hx hb dX3_lower_216 (by decide) (fun c9 => absurd c9 (by decide)) (fun _ => ?_)
                      refine lv_iload hx hb dX3_lower_219 (lv_at hl 0 rfl) ?_
                      refine lv_if_eq (tgt := 234) hx hb dX3_lower_221 (by decide) (fun c9 => absurd c9 (by decide)) (fun _ => ?_)
                      refine lv_aload_n hx hb dX3_lower_224 rfl (lv_at hl 3 rfl) ?_
                      refine lv_iload hx hb dX3_lower_225 (lv_at hl 2 rfl) ?_
                      refine lv_iload_n hx hb dX3_lower_227 rfl (lv_at hl 6 rfl) ?_
                      refine pq_callV (wr := []) (own := RX3) (nL := 7) (q0 := 0) (ci := 3) [0, 1, 2, 3, 4, 5, 6, 7, 8, 9] [] [.int (nI e), .int c0] (mX3_press l D cI mo z1 z2 z3 z4 z5 z6 z7 z8 z9 col hs cs fi la B_10 T (nI L) laid piled prs 0 e c0 (by omega)) ⟨hx, hb, hml, hown, hts⟩ (cwV 2 hts gX3_lower_X3_press rfl rfl rfl (by decide +kernel) ⟨by dsimp only [pq_R]; omega, by dsimp only [pq_R]; omega⟩) pq_bl0 (fun _ _ _ => trivial) hK hP hD hS hA rfl (by decide) rfl (by decide) (by decide) rfl rfl rfl rfl hl.1 rfl (Nat.le_of_ble_eq_true rfl) dX3_lower_228 ⟨by dsimp only [pq_R]; omega, by dsimp only [pq_R]; omega⟩ (fun v w1 H locs hq hP hD hS hz => ?_)
                      obtain ⟨rfl, rfl⟩ := hq
                      obtain ⟨B_21, hB_21⟩ : ∃ zz, zz = bPress B_10 e c0 := ⟨_, rfl⟩
                      rw [← hB_21] at hP hD
                      have hP : va_P D vwCl [(mo, .inr (3, [.int col, .ref z1, .ref z2, .ref z3, .ref z4, .ref z5, .ref z6, .ref z7, .ref z8, .ref z9, .int (nI L), .int B_21.2.2.2.2.1, .int B_21.2.2.2.2.2.1, .int B_21.2.2.2.2.2.2, .int laid, .int piled, .int prs, .int 0])), (z1, .inl (cI, 64, .inl hs)), (z2, .inl (cI, 64, .inl cs)), (z3, .inl (cI, 128, .inl fi)), (z4, .inl (cI, 128, .inl la)), (z5, .inl (cI, 128, .inl B_21.1)), (z6, .inl (cI, 128, .inl B_21.2.1)), (z7, .inl (cI, 128, .inl B_21.2.2.1)), (z8, .inl (cI, 128, .inl B_21.2.2.2.1)), (z9, .inl (cI, 64, .inl T))] H := hP
                      have hD : va_D A [(mo, .inr (3, [.int col, .ref z1, .ref z2, .ref z3, .ref z4, .ref z5, .ref z6, .ref z7, .ref z8, .ref z9, .int (nI L), .int B_21.2.2.2.2.1, .int B_21.2.2.2.2.2.1, .int B_21.2.2.2.2.2.2, .int laid, .int piled, .int prs, .int 0])), (z1, .inl (cI, 64, .inl hs)), (z2, .inl (cI, 64, .inl cs)), (z3, .inl (cI, 128, .inl fi)), (z4, .inl (cI, 128, .inl la)), (z5, .inl (cI, 128, .inl B_21.1)), (z6, .inl (cI, 128, .inl B_21.2.1)), (z7, .inl (cI, 128, .inl B_21.2.2.1)), (z8, .inl (cI, 128, .inl B_21.2.2.2.1)), (z9, .inl (cI, 64, .inl T))] := hD
                      refine W.eq (g2 := F0 m 231 ls []) rfl ?_
                      refine lv_goto (tgt := 246) hx hb dX3_lower_231 (by decide) ?_
                      refine lv_goto (tgt := 47) hx hb dX3_lower_246 (by decide) ?_
                      subst hB_21
                      subst hB_10
                      have hm : mPress fi la (nI kf) (nI kt) c0 (d + 1) Y e = bPress (bVisit Y) e c0 := by rw [mPress, if_neg j_11, if_pos (Or.inr c_19)]
                      rw [hm] at K
                      exact K T (fun _ _ => rfl) H locs ls hP hD hS (lv_sub hl [3, 4, 5, 6] rfl)
                refine lv_aload_n hx hb dX3_lower_145 rfl (lv_at hl 2 rfl) ?_
                refine va_get (D := D) (ci := 3) (v := .ref z3) (C := RX3) (T := TX3) (N := 18) hx hb hts hin_X3 hown hK hP 0 rfl rfl 3 (by decide) hf_PressedPlainsModel_16 (fun _ h9 => h9) rfl dX3_lower_146 ?_
                refine lv_iload hx hb dX3_lower_149 (lv_at hl 1 rfl) ?_
                refine pq_iald hx hb hK hP 3 0 rfl rfl e (by omega) (by decide) dX3_lower_151 ?_
                refine lv_iload_n hx hb dX3_lower_152 rfl (lv_at hl 3 rfl) ?_
                refine lv_icmp_lt (tgt := 182) hx hb dX3_lower_153 (by decide) (fun c_22 => ?_) (fun c_22 => ?_)
                · refine lv_iconst (v := 0) hx hb dX3_lower_182 (by decide) ?_
                  exact J17 _ (by rw [if_neg (show ¬ (mAll fi la e (nI kf) (nI kt) ∧ ¬ c0 ≤ B_10.2.1 e) from fun h => h.1.1 c_22)]) H locs ls hP hD hS hl
                · refine lv_aload_n hx hb dX3_lower_156 rfl (lv_at hl 2 rfl) ?_
                  refine va_get (D := D) (ci := 3) (v := .ref z4) (C := RX3) (T := TX3) (N := 18) hx hb hts hin_X3 hown hK hP 0 rfl rfl 4 (by decide) hf_PressedPlainsModel_19 (fun _ h9 => h9) rfl dX3_lower_157 ?_
                  refine lv_iload hx hb dX3_lower_160 (lv_at hl 1 rfl) ?_
                  refine pq_iald hx hb hK hP 4 0 rfl rfl e (by omega) (by decide) dX3_lower_162 ?_
                  refine lv_iload_n hx hb dX3_lower_163 rfl (lv_at hl 4 rfl) ?_
                  refine lv_icmp_gt (tgt := 182) hx hb dX3_lower_164 (by decide) (fun c_23 => ?_) (fun c_23 => ?_)
                  · refine lv_iconst (v := 0) hx hb dX3_lower_182 (by decide) ?_
                    exact J17 _ (by rw [if_neg (show ¬ (mAll fi la e (nI kf) (nI kt) ∧ ¬ c0 ≤ B_10.2.1 e) from fun h => h.1.2 c_23)]) H locs ls hP hD hS hl
                  · refine lv_aload_n hx hb dX3_lower_167 rfl (lv_at hl 2 rfl) ?_
                    refine va_get (D := D) (ci := 3) (v := .ref z6) (C := RX3) (T := TX3) (N := 18) hx hb hts hin_X3 hown hK hP 0 rfl rfl 6 (by decide) hf_PressedPlainsModel_25 (fun _ h9 => h9) rfl dX3_lower_168 ?_
                    refine lv_iload hx hb dX3_lower_171 (lv_at hl 1 rfl) ?_
                    refine pq_iald hx hb hK hP 6 0 rfl rfl e (by omega) (by decide) dX3_lower_173 ?_
                    refine lv_iload_n hx hb dX3_lower_174 rfl (lv_at hl 5 rfl) ?_
                    refine lv_icmp_ge (tgt := 182) hx hb dX3_lower_175 (by decide) (fun c_24 => ?_) (fun c_24 => ?_)
                    · refine lv_iconst (v := 0) hx hb dX3_lower_182 (by decide) ?_
                      exact J17 _ (by rw [if_neg (show ¬ (mAll fi la e (nI kf) (nI kt) ∧ ¬ c0 ≤ B_10.2.1 e) from fun h => h.2 c_24)]) H locs ls hP hD hS hl
                    · refine lv_iconst (v := 1) hx hb dX3_lower_178 (by decide) ?_
                      refine lv_goto (tgt := 183) hx hb dX3_lower_179 (by decide) ?_
                      exact J17 _ (by rw [if_pos (show mAll fi la e (nI kf) (nI kt) ∧ ¬ c0 ≤ B_10.2.1 e from ⟨⟨c_22, c_23⟩, c_24⟩)]) H locs ls hP hD hS hl
            refine lv_aload_n hx hb dX3_lower_105 rfl (lv_at hl 1 rfl) ?_
            refine va_get (D := D) (ci := 3) (v := .ref z3) (C := RX3) (T := TX3) (N := 18) hx hb hts hin_X3 hown hK hP 0 rfl rfl 3 (by decide) hf_PressedPlainsModel_16 (fun _ h9 => h9) rfl dX3_lower_106 ?_
            refine lv_iload hx hb dX3_lower_109 (lv_at hl 0 rfl) ?_
            refine pq_iald hx hb hK hP 3 0 rfl rfl e (by omega) (by decide) dX3_lower_111 ?_
            refine lv_iload_n hx hb dX3_lower_112 rfl (lv_at hl 3 rfl) ?_
            refine lv_icmp_gt (tgt := 138) hx hb dX3_lower_113 (by decide) (fun c_25 => ?_) (fun c_25 => ?_)
            · refine lv_iconst (v := 1) hx hb dX3_lower_138 (by decide) ?_
              refine lv_goto (tgt := 143) hx hb dX3_lower_139 (by decide) ?_
              exact J11 _ (by rw [if_pos (show mNo fi la e (nI kf) (nI kt) ∨ ¬ c0 < B_10.1 e from Or.inl (Or.inl c_25))]) H locs ls hP hD hS hl
            · refine lv_aload_n hx hb dX3_lower_116 rfl (lv_at hl 1 rfl) ?_
              refine va_get (D := D) (ci := 3) (v := .ref z4) (C := RX3) (T := TX3) (N := 18) hx hb hts hin_X3 hown hK hP 0 rfl rfl 4 (by decide) hf_PressedPlainsModel_19 (fun _ h9 => h9) rfl dX3_lower_117 ?_
              refine lv_iload hx hb dX3_lower_120 (lv_at hl 0 rfl) ?_
              refine pq_iald hx hb hK hP 4 0 rfl rfl e (by omega) (by decide) dX3_lower_122 ?_
              refine lv_iload_n hx hb dX3_lower_123 rfl (lv_at hl 2 rfl) ?_
              refine lv_icmp_lt (tgt := 138) hx hb dX3_lower_124 (by decide) (fun c_26 => ?_) (fun c_26 => ?_)
              · refine lv_iconst (v := 1) hx hb dX3_lower_138 (by decide) ?_
                refine lv_goto (tgt := 143) hx hb dX3_lower_139 (by decide) ?_
                exact J11 _ (by rw [if_pos (show mNo fi la e (nI kf) (nI kt) ∨ ¬ c0 < B_10.1 e from Or.inl (Or.inr c_26))]) H locs ls hP hD hS hl
              · refine lv_aload_n hx hb dX3_lower_127 rfl (lv_at hl 1 rfl) ?_
                refine va_get (D := D) (ci := 3) (v := .ref z5) (C := RX3) (T := TX3) (N := 18) hx hb hts hin_X3 hown hK hP 0 rfl rfl 5 (by decide) hf_PressedPlainsModel_22 (fun _ h9 => h9) rfl dX3_lower_128 ?_
                refine lv_iload hx hb dX3_lower_131 (lv_at hl 0 rfl) ?_
                refine pq_iald hx hb hK hP 5 0 rfl rfl e (by omega) (by decide) dX3_lower_133 ?_
                refine lv_iload_n hx hb dX3_lower_134 rfl (lv_at hl 4 rfl) ?_
                refine lv_icmp_gt (tgt := 142) hx hb dX3_lower_135 (by decide) (fun c_27 => ?_) (fun c_27 => ?_)
                · refine lv_iconst (v := 0) hx hb dX3_lower_142 (by decide) ?_
                  exact J11 _ (by rw [if_neg (show ¬ (mNo fi la e (nI kf) (nI kt) ∨ ¬ c0 < B_10.1 e) from fun h => h.elim (fun h => h.elim c_25 c_26) (fun h => h c_27))]) H locs ls hP hD hS hl
                · refine lv_iconst (v := 1) hx hb dX3_lower_138 (by decide) ?_
                  refine lv_goto (tgt := 143) hx hb dX3_lower_139 (by decide) ?_
                  exact J11 _ (by rw [if_pos (show mNo fi la e (nI kf) (nI kt) ∨ ¬ c0 < B_10.1 e from Or.inr c_27)]) H locs ls hP hD hS hl
        refine LS 7 1 0 B_8 (upd td 0 2) (by decide) (by decide) (by decide) (by decide) hrt rfl (fun T' _ H locs ls hP hD hS hl => ?_) H locs ls hP hD hS hl
        obtain ⟨Rz, hRz⟩ : ∃ zz, zz = (mPress fi la (nI kf) (nI kt) c0 7 B_8 1) := ⟨_, rfl⟩
        rw [← hRz] at hP hD
        refine lv_aload_n hx hb dX3_lower_47 rfl (lv_at hl 0 rfl) ?_
        refine va_get (D := D) (ci := 3) (v := .int (nI 0)) (C := RX3) (T := TX3) (N := 18) hx hb hts hin_X3 hown hK hP 0 rfl rfl 10 (by decide) hf_PressedPlainsModel_77 (fun _ h9 => h9) rfl dX3_lower_48 ?_
        refine lv_if_le (tgt := 249) hx hb dX3_lower_51 (by decide) (fun _ => ?_) (fun c9 => absurd (nI_le (a := 0) (b := 0) (by omega) (by omega)) c9)
        refine lv_aload_n hx hb dX3_lower_249 rfl (lv_at hl 0 rfl) ?_
        refine lv_iload_n hx hb dX3_lower_250 rfl (lv_at hl 1 rfl) ?_
        refine lv_iload_n hx hb dX3_lower_251 rfl (lv_at hl 2 rfl) ?_
        refine lv_iload_n hx hb dX3_lower_252 rfl (lv_at hl 3 rfl) ?_
        refine pq_callV (wr := []) (own := RX3) (nL := 7) (q0 := 0) (ci := 3) [0, 1, 2, 3, 4, 5, 6, 7, 8, 9] [] [.int (nI kf), .int (nI kt), .int c0] (mX3_presses l D cI mo z1 z2 z3 z4 z5 z6 z7 z8 z9 col hs cs fi la Rz T' (nI 0) laid piled prs 0 kf kt c0 (by omega) (by omega)) ⟨hx, hb, hml, hown, hts⟩ (cwV 3 hts gX3_lower_X3_presses rfl rfl rfl (by decide +kernel) ⟨by dsimp only [pq_R]; omega, by dsimp only [pq_R]; omega⟩) pq_bl0 (fun _ _ _ => trivial) hK hP hD hS hA rfl (by decide) rfl (by decide) (by decide) rfl rfl rfl rfl hl.1 rfl (Nat.le_of_ble_eq_true rfl) dX3_lower_253 ⟨by dsimp only [pq_R]; omega, by dsimp only [pq_R]; omega⟩ (fun v w1 H locs hq hP hD hS hz => ?_)
        obtain ⟨rfl, rfl⟩ := hq
        have hP : va_P D vwCl [(mo, .inr (3, [.int col, .ref z1, .ref z2, .ref z3, .ref z4, .ref z5, .ref z6, .ref z7, .ref z8, .ref z9, .int (nI 0), .int Rz.2.2.2.2.1, .int Rz.2.2.2.2.2.1, .int Rz.2.2.2.2.2.2, .int laid, .int piled, .int prs, .int 0])), (z1, .inl (cI, 64, .inl hs)), (z2, .inl (cI, 64, .inl cs)), (z3, .inl (cI, 128, .inl fi)), (z4, .inl (cI, 128, .inl la)), (z5, .inl (cI, 128, .inl Rz.1)), (z6, .inl (cI, 128, .inl Rz.2.1)), (z7, .inl (cI, 128, .inl Rz.2.2.1)), (z8, .inl (cI, 128, .inl Rz.2.2.2.1)), (z9, .inl (cI, 64, .inl T'))] H := hP
        have hD : va_D A [(mo, .inr (3, [.int col, .ref z1, .ref z2, .ref z3, .ref z4, .ref z5, .ref z6, .ref z7, .ref z8, .ref z9, .int (nI 0), .int Rz.2.2.2.2.1, .int Rz.2.2.2.2.2.1, .int Rz.2.2.2.2.2.2, .int laid, .int piled, .int prs, .int 0])), (z1, .inl (cI, 64, .inl hs)), (z2, .inl (cI, 64, .inl cs)), (z3, .inl (cI, 128, .inl fi)), (z4, .inl (cI, 128, .inl la)), (z5, .inl (cI, 128, .inl Rz.1)), (z6, .inl (cI, 128, .inl Rz.2.1)), (z7, .inl (cI, 128, .inl Rz.2.2.1)), (z8, .inl (cI, 128, .inl Rz.2.2.2.1)), (z9, .inl (cI, 64, .inl T'))] := hD
        refine W.eq (g2 := F0 m 256 ls [.int (mAbove hs kf (kt + 1 - kf) c0)]) rfl ?_
        refine lv_istore (lv' := [(4, .int (mAbove hs kf (kt + 1 - kf) c0)), (0, .ref mo), (1, .int (nI kf)), (2, .int (nI kt)), (3, .int c0)]) hx hb dX3_lower_256 hl (by decide) rfl (fun ls hl => ?_)
        refine lv_iload_n hx hb dX3_lower_258 rfl (lv_at hl 2 rfl) ?_
        refine lv_istore (lv' := [(5, .int (nI kf)), (4, .int (mAbove hs kf (kt + 1 - kf) c0)), (0, .ref mo), (1, .int (nI kf)), (2, .int (nI kt)), (3, .int c0)]) hx hb dX3_lower_259 hl (by decide) rfl (fun ls hl => ?_)
        have LP : ∀ (n : Nat) (kk : Nat) (X Y2 : Nat → Int32), kt + 1 - kk < n → kf ≤ kk → kk ≤ kt + 1 → X = mPressH c0 kf hs (kk - kf) → Y2 = mPressC c0 kf cs (kk - kf) → ∀ (H : Heap) (locs : List Loc) (ls : Array Slot), va_P D vwCl [(mo, .inr (3, [.int col, .ref z1, .ref z2, .ref z3, .ref z4, .ref z5, .ref z6, .ref z7, .ref z8, .ref z9, .int (nI 0), .int Rz.2.2.2.2.1, .int Rz.2.2.2.2.2.1, .int Rz.2.2.2.2.2.2, .int laid, .int piled, .int prs, .int 0])), (z1, .inl (cI, 64, .inl X)), (z2, .inl (cI, 64, .inl Y2)), (z3, .inl (cI, 128, .inl fi)), (z4, .inl (cI, 128, .inl la)), (z5, .inl (cI, 128, .inl Rz.1)), (z6, .inl (cI, 128, .inl Rz.2.1)), (z7, .inl (cI, 128, .inl Rz.2.2.1)), (z8, .inl (cI, 128, .inl Rz.2.2.2.1)), (z9, .inl (cI, 64, .inl T'))] H → va_D A [(mo, .inr (3, [.int col, .ref z1, .ref z2, .ref z3, .ref z4, .ref z5, .ref z6, .ref z7, .ref z8, .ref z9, .int (nI 0), .int Rz.2.2.2.2.1, .int Rz.2.2.2.2.2.1, .int Rz.2.2.2.2.2.2, .int laid, .int piled, .int prs, .int 0])), (z1, .inl (cI, 64, .inl X)), (z2, .inl (cI, 64, .inl Y2)), (z3, .inl (cI, 128, .inl fi)), (z4, .inl (cI, 128, .inl la)), (z5, .inl (cI, 128, .inl Rz.1)), (z6, .inl (cI, 128, .inl Rz.2.1)), (z7, .inl (cI, 128, .inl Rz.2.2.1)), (z8, .inl (cI, 128, .inl Rz.2.2.2.1)), (z9, .inl (cI, 64, .inl T'))] → va_S A s.heap H locs → lv_has ls 7 [(5, .int (nI kk)), (4, .int (mAbove hs kf (kt + 1 - kf) c0)), (0, .ref mo), (1, .int (nI kf)), (2, .int (nI kt)), (3, .int c0)] → W p l ev (pq_R 3 66 0 0) s m args below meth cd H locs 0 0 Q (F0 m 261 ls []) := by
          intro n
          induction n with
          | zero => intro kk X Y2 h1; exact absurd h1 (Nat.not_lt_zero _)
          | succ n ihLP =>
            intro kk X Y2 hmeas h2 h3 hX hY2 H locs ls hP hD hS hl
            refine lv_iload hx hb dX3_lower_261 (lv_at hl 0 rfl) ?_
            refine lv_iload_n hx hb dX3_lower_263 rfl (lv_at hl 4 rfl) ?_
            rcases Nat.lt_or_ge kt kk with k_29 | k_29
            · refine lv_icmp_gt (tgt := 342) hx hb dX3_lower_264 (by decide) (fun _ => ?_) (fun c9 => absurd ((nI_lt (a := kt) (b := kk) k_29 (by omega))) c9)
              refine lv_aload_n hx hb dX3_lower_342 rfl (lv_at hl 2 rfl) ?_
              refine lv_dup hx hb dX3_lower_343 rfl ?_
              refine va_get (D := D) (ci := 3) (v := .int prs) (C := RX3) (T := TX3) (N := 18) hx hb hts hin_X3 hown hK hP 0 rfl rfl 16 (by decide) hf_PressedPlainsModel_67 (fun _ h9 => h9) rfl dX3_lower_344 ?_
              refine lv_iload hx hb dX3_lower_347 (lv_at hl 1 rfl) ?_
              refine lv_iadd hx hb dX3_lower_349 ?_
              refine va_put (D := D) (ci := 3) (v := .int (prs + (mAbove hs kf (kt + 1 - kf) c0))) (ty := .int) (C := RX3) (T := TX3) (N := 18) hx hb hts hin_X3 tyX3 tyX3_ok nmX3 hown hK hP hD hS 0 rfl rfl 16 (by decide) hf_PressedPlainsModel_67 (fun _ h9 => h9) rfl (by decide +kernel) rfl rfl (Nat.le_of_ble_eq_true rfl) dX3_lower_350 (fun H locs hP hD hS => ?_)
              have hP : va_P D vwCl [(mo, .inr (3, [.int col, .ref z1, .ref z2, .ref z3, .ref z4, .ref z5, .ref z6, .ref z7, .ref z8, .ref z9, .int (nI 0), .int Rz.2.2.2.2.1, .int Rz.2.2.2.2.2.1, .int Rz.2.2.2.2.2.2, .int laid, .int piled, .int (prs + (mAbove hs kf (kt + 1 - kf) c0)), .int 0])), (z1, .inl (cI, 64, .inl X)), (z2, .inl (cI, 64, .inl Y2)), (z3, .inl (cI, 128, .inl fi)), (z4, .inl (cI, 128, .inl la)), (z5, .inl (cI, 128, .inl Rz.1)), (z6, .inl (cI, 128, .inl Rz.2.1)), (z7, .inl (cI, 128, .inl Rz.2.2.1)), (z8, .inl (cI, 128, .inl Rz.2.2.2.1)), (z9, .inl (cI, 64, .inl T'))] H := hP
              have hD : va_D A [(mo, .inr (3, [.int col, .ref z1, .ref z2, .ref z3, .ref z4, .ref z5, .ref z6, .ref z7, .ref z8, .ref z9, .int (nI 0), .int Rz.2.2.2.2.1, .int Rz.2.2.2.2.2.1, .int Rz.2.2.2.2.2.2, .int laid, .int piled, .int (prs + (mAbove hs kf (kt + 1 - kf) c0)), .int 0])), (z1, .inl (cI, 64, .inl X)), (z2, .inl (cI, 64, .inl Y2)), (z3, .inl (cI, 128, .inl fi)), (z4, .inl (cI, 128, .inl la)), (z5, .inl (cI, 128, .inl Rz.1)), (z6, .inl (cI, 128, .inl Rz.2.1)), (z7, .inl (cI, 128, .inl Rz.2.2.1)), (z8, .inl (cI, 128, .inl Rz.2.2.2.1)), (z9, .inl (cI, 64, .inl T'))] := hD
              refine lv_iload hx hb dX3_lower_353 (lv_at hl 1 rfl) ?_
              exact pq_iret hQ hx hb hr hlocks hK hS hP hD dX3_lower_355 (by omega) (by omega) (by have e1 : X = mPressH c0 kf hs (kt + 1 - kf) := (by rw [hX, show kk = kt + 1 by omega]); have e2 : Y2 = mPressC c0 kf cs (kt + 1 - kf) := (by rw [hY2, show kk = kt + 1 by omega]); subst e1; subst e2; subst hRz; subst hB_8; exact Or.inr ⟨kf, kt, rfl, rfl, hft, htN, rfl, ⟨T', rfl⟩, cl_low hnsp b_6⟩)
            · refine lv_icmp_gt (tgt := 342) hx hb dX3_lower_264 (by decide) (fun c9 => absurd c9 ((nI_nlt (a := kt) (b := kk) k_29 (by omega)))) (fun _ => ?_)
              refine lv_aload_n hx hb dX3_lower_267 rfl (lv_at hl 2 rfl) ?_
              refine va_get (D := D) (ci := 3) (v := .ref z1) (C := RX3) (T := TX3) (N := 18) hx hb hts hin_X3 hown hK hP 0 rfl rfl 1 (by decide) hf_PressedPlainsModel_7 (fun _ h9 => h9) rfl dX3_lower_268 ?_
              refine lv_iload hx hb dX3_lower_271 (lv_at hl 0 rfl) ?_
              have J30 : ∀ (H : Heap) (locs : List Loc) (ls : Array Slot), va_P D vwCl [(mo, .inr (3, [.int col, .ref z1, .ref z2, .ref z3, .ref z4, .ref z5, .ref z6, .ref z7, .ref z8, .ref z9, .int (nI 0), .int Rz.2.2.2.2.1, .int Rz.2.2.2.2.2.1, .int Rz.2.2.2.2.2.2, .int laid, .int piled, .int prs, .int 0])), (z1, .inl (cI, 64, .inl X)), (z2, .inl (cI, 64, .inl Y2)), (z3, .inl (cI, 128, .inl fi)), (z4, .inl (cI, 128, .inl la)), (z5, .inl (cI, 128, .inl Rz.1)), (z6, .inl (cI, 128, .inl Rz.2.1)), (z7, .inl (cI, 128, .inl Rz.2.2.1)), (z8, .inl (cI, 128, .inl Rz.2.2.2.1)), (z9, .inl (cI, 64, .inl T'))] H → va_D A [(mo, .inr (3, [.int col, .ref z1, .ref z2, .ref z3, .ref z4, .ref z5, .ref z6, .ref z7, .ref z8, .ref z9, .int (nI 0), .int Rz.2.2.2.2.1, .int Rz.2.2.2.2.2.1, .int Rz.2.2.2.2.2.2, .int laid, .int piled, .int prs, .int 0])), (z1, .inl (cI, 64, .inl X)), (z2, .inl (cI, 64, .inl Y2)), (z3, .inl (cI, 128, .inl fi)), (z4, .inl (cI, 128, .inl la)), (z5, .inl (cI, 128, .inl Rz.1)), (z6, .inl (cI, 128, .inl Rz.2.1)), (z7, .inl (cI, 128, .inl Rz.2.2.1)), (z8, .inl (cI, 128, .inl Rz.2.2.2.1)), (z9, .inl (cI, 64, .inl T'))] → va_S A s.heap H locs → lv_has ls 7 [(5, .int (nI kk)), (4, .int (mAbove hs kf (kt + 1 - kf) c0)), (0, .ref mo), (1, .int (nI kf)), (2, .int (nI kt)), (3, .int c0)] → W p l ev (pq_R 3 66 0 0) s m args below meth cd H locs 0 0 Q (F0 m 295 ls [.int (if X kk ≤ c0 then X kk else c0), .int (nI kk), .ref z1]) := by
                intro H locs ls hP hD hS hl
                refine pq_iast hx hb hK hP hD hS 1 0 rfl rfl kk (by omega) (by decide) dX3_lower_295 (fun H locs hP hD hS => ?_)
                have hP : va_P D vwCl [(mo, .inr (3, [.int col, .ref z1, .ref z2, .ref z3, .ref z4, .ref z5, .ref z6, .ref z7, .ref z8, .ref z9, .int (nI 0), .int Rz.2.2.2.2.1, .int Rz.2.2.2.2.2.1, .int Rz.2.2.2.2.2.2, .int laid, .int piled, .int prs, .int 0])), (z1, .inl (cI, 64, .inl (upd X kk (if X kk ≤ c0 then X kk else c0)))), (z2, .inl (cI, 64, .inl Y2)), (z3, .inl (cI, 128, .inl fi)), (z4, .inl (cI, 128, .inl la)), (z5, .inl (cI, 128, .inl Rz.1)), (z6, .inl (cI, 128, .inl Rz.2.1)), (z7, .inl (cI, 128, .inl Rz.2.2.1)), (z8, .inl (cI, 128, .inl Rz.2.2.2.1)), (z9, .inl (cI, 64, .inl T'))] H := hP
                have hD : va_D A [(mo, .inr (3, [.int col, .ref z1, .ref z2, .ref z3, .ref z4, .ref z5, .ref z6, .ref z7, .ref z8, .ref z9, .int (nI 0), .int Rz.2.2.2.2.1, .int Rz.2.2.2.2.2.1, .int Rz.2.2.2.2.2.2, .int laid, .int piled, .int prs, .int 0])), (z1, .inl (cI, 64, .inl (upd X kk (if X kk ≤ c0 then X kk else c0)))), (z2, .inl (cI, 64, .inl Y2)), (z3, .inl (cI, 128, .inl fi)), (z4, .inl (cI, 128, .inl la)), (z5, .inl (cI, 128, .inl Rz.1)), (z6, .inl (cI, 128, .inl Rz.2.1)), (z7, .inl (cI, 128, .inl Rz.2.2.1)), (z8, .inl (cI, 128, .inl Rz.2.2.2.1)), (z9, .inl (cI, 64, .inl T'))] := hD
                refine lv_aload_n hx hb dX3_lower_296 rfl (lv_at hl 2 rfl) ?_
                refine va_get (D := D) (ci := 3) (v := .ref z2) (C := RX3) (T := TX3) (N := 18) hx hb hts hin_X3 hown hK hP 0 rfl rfl 2 (by decide) hf_PressedPlainsModel_13 (fun _ h9 => h9) rfl dX3_lower_297 ?_
                refine lv_iload hx hb dX3_lower_300 (lv_at hl 0 rfl) ?_
                have J31 : ∀ (H : Heap) (locs : List Loc) (ls : Array Slot), va_P D vwCl [(mo, .inr (3, [.int col, .ref z1, .ref z2, .ref z3, .ref z4, .ref z5, .ref z6, .ref z7, .ref z8, .ref z9, .int (nI 0), .int Rz.2.2.2.2.1, .int Rz.2.2.2.2.2.1, .int Rz.2.2.2.2.2.2, .int laid, .int piled, .int prs, .int 0])), (z1, .inl (cI, 64, .inl (upd X kk (if X kk ≤ c0 then X kk else c0)))), (z2, .inl (cI, 64, .inl Y2)), (z3, .inl (cI, 128, .inl fi)), (z4, .inl (cI, 128, .inl la)), (z5, .inl (cI, 128, .inl Rz.1)), (z6, .inl (cI, 128, .inl Rz.2.1)), (z7, .inl (cI, 128, .inl Rz.2.2.1)), (z8, .inl (cI, 128, .inl Rz.2.2.2.1)), (z9, .inl (cI, 64, .inl T'))] H → va_D A [(mo, .inr (3, [.int col, .ref z1, .ref z2, .ref z3, .ref z4, .ref z5, .ref z6, .ref z7, .ref z8, .ref z9, .int (nI 0), .int Rz.2.2.2.2.1, .int Rz.2.2.2.2.2.1, .int Rz.2.2.2.2.2.2, .int laid, .int piled, .int prs, .int 0])), (z1, .inl (cI, 64, .inl (upd X kk (if X kk ≤ c0 then X kk else c0)))), (z2, .inl (cI, 64, .inl Y2)), (z3, .inl (cI, 128, .inl fi)), (z4, .inl (cI, 128, .inl la)), (z5, .inl (cI, 128, .inl Rz.1)), (z6, .inl (cI, 128, .inl Rz.2.1)), (z7, .inl (cI, 128, .inl Rz.2.2.1)), (z8, .inl (cI, 128, .inl Rz.2.2.2.1)), (z9, .inl (cI, 64, .inl T'))] → va_S A s.heap H locs → lv_has ls 7 [(5, .int (nI kk)), (4, .int (mAbove hs kf (kt + 1 - kf) c0)), (0, .ref mo), (1, .int (nI kf)), (2, .int (nI kt)), (3, .int c0)] → W p l ev (pq_R 3 66 0 0) s m args below meth cd H locs 0 0 Q (F0 m 335 ls [.int (if Y2 kk = -1 ∨ c0 < Y2 kk then c0 else Y2 kk), .int (nI kk), .ref z2]) := by
                  intro H locs ls hP hD hS hl
                  refine pq_iast hx hb hK hP hD hS 2 0 rfl rfl kk (by omega) (by decide) dX3_lower_335 (fun H locs hP hD hS => ?_)
                  have hP : va_P D vwCl [(mo, .inr (3, [.int col, .ref z1, .ref z2, .ref z3, .ref z4, .ref z5, .ref z6, .ref z7, .ref z8, .ref z9, .int (nI 0), .int Rz.2.2.2.2.1, .int Rz.2.2.2.2.2.1, .int Rz.2.2.2.2.2.2, .int laid, .int piled, .int prs, .int 0])), (z1, .inl (cI, 64, .inl (upd X kk (if X kk ≤ c0 then X kk else c0)))), (z2, .inl (cI, 64, .inl (upd Y2 kk (if Y2 kk = -1 ∨ c0 < Y2 kk then c0 else Y2 kk)))), (z3, .inl (cI, 128, .inl fi)), (z4, .inl (cI, 128, .inl la)), (z5, .inl (cI, 128, .inl Rz.1)), (z6, .inl (cI, 128, .inl Rz.2.1)), (z7, .inl (cI, 128, .inl Rz.2.2.1)), (z8, .inl (cI, 128, .inl Rz.2.2.2.1)), (z9, .inl (cI, 64, .inl T'))] H := hP
                  have hD : va_D A [(mo, .inr (3, [.int col, .ref z1, .ref z2, .ref z3, .ref z4, .ref z5, .ref z6, .ref z7, .ref z8, .ref z9, .int (nI 0), .int Rz.2.2.2.2.1, .int Rz.2.2.2.2.2.1, .int Rz.2.2.2.2.2.2, .int laid, .int piled, .int prs, .int 0])), (z1, .inl (cI, 64, .inl (upd X kk (if X kk ≤ c0 then X kk else c0)))), (z2, .inl (cI, 64, .inl (upd Y2 kk (if Y2 kk = -1 ∨ c0 < Y2 kk then c0 else Y2 kk)))), (z3, .inl (cI, 128, .inl fi)), (z4, .inl (cI, 128, .inl la)), (z5, .inl (cI, 128, .inl Rz.1)), (z6, .inl (cI, 128, .inl Rz.2.1)), (z7, .inl (cI, 128, .inl Rz.2.2.1)), (z8, .inl (cI, 128, .inl Rz.2.2.2.1)), (z9, .inl (cI, 64, .inl T'))] := hD
                  refine lv_iinc (v := nI (kk + 1)) (lv' := [(5, .int (nI (kk + 1))), (4, .int (mAbove hs kf (kt + 1 - kf) c0)), (0, .ref mo), (1, .int (nI kf)), (2, .int (nI kt)), (3, .int c0)]) hx hb dX3_lower_336 hl (k := 0) rfl (nI_add _ 1) (by decide) rfl (fun ls hl => ?_)
                  refine lv_goto (tgt := 261) hx hb dX3_lower_339 (by decide) ?_
                  exact ihLP (kk + 1) (upd X kk (if X kk ≤ c0 then X kk else c0)) (upd Y2 kk (if Y2 kk = -1 ∨ c0 < Y2 kk then c0 else Y2 kk)) (by omega) (by omega) (by omega) (by rw [mPressH_s _ _ _ h2, ← hX]) (by rw [mPressC_s _ _ _ h2, ← hY2]) H locs ls hP hD hS (lv_sub hl [0, 1, 2, 3, 4, 5] rfl)
                refine lv_aload_n hx hb dX3_lower_302 rfl (lv_at hl 2 rfl) ?_
                refine va_get (D := D) (ci := 3) (v := .ref z2) (C := RX3) (T := TX3) (N := 18) hx hb hts hin_X3 hown hK hP 0 rfl rfl 2 (by decide) hf_PressedPlainsModel_13 (fun _ h9 => h9) rfl dX3_lower_303 ?_
                refine lv_iload hx hb dX3_lower_306 (lv_at hl 0 rfl) ?_
                refine pq_iald hx hb hK hP 2 0 rfl rfl kk (by omega) (by decide) dX3_lower_308 ?_
                refine lv_iconst (v := (-1)) hx hb dX3_lower_309 (by decide) ?_
                refine lv_icmp_eq (tgt := 324) hx hb dX3_lower_310 (by decide) (fun c_32 => ?_) (fun c_32 => ?_)
                · refine lv_iload_n hx hb dX3_lower_324 rfl (lv_at hl 5 rfl) ?_
                  refine lv_goto (tgt := 335) hx hb dX3_lower_325 (by decide) ?_
                  refine pq_top (if Y2 kk = -1 ∨ c0 < Y2 kk then c0 else Y2 kk) ((if_pos (Or.inl c_32)).symm) ?_
                  exact J31 H locs ls hP hD hS hl
                · refine lv_iload_n hx hb dX3_lower_313 rfl (lv_at hl 5 rfl) ?_
                  refine lv_aload_n hx hb dX3_lower_314 rfl (lv_at hl 2 rfl) ?_
                  refine va_get (D := D) (ci := 3) (v := .ref z2) (C := RX3) (T := TX3) (N := 18) hx hb hts hin_X3 hown hK hP 0 rfl rfl 2 (by decide) hf_PressedPlainsModel_13 (fun _ h9 => h9) rfl dX3_lower_315 ?_
                  refine lv_iload hx hb dX3_lower_318 (lv_at hl 0 rfl) ?_
                  refine pq_iald hx hb hK hP 2 0 rfl rfl kk (by omega) (by decide) dX3_lower_320 ?_
                  refine lv_icmp_ge (tgt := 328) hx hb dX3_lower_321 (by decide) (fun c_33 => ?_) (fun c_33 => ?_)
                  · refine lv_aload_n hx hb dX3_lower_328 rfl (lv_at hl 2 rfl) ?_
                    refine va_get (D := D) (ci := 3) (v := .ref z2) (C := RX3) (T := TX3) (N := 18) hx hb hts hin_X3 hown hK hP 0 rfl rfl 2 (by decide) hf_PressedPlainsModel_13 (fun _ h9 => h9) rfl dX3_lower_329 ?_
                    refine lv_iload hx hb dX3_lower_332 (lv_at hl 0 rfl) ?_
                    refine pq_iald hx hb hK hP 2 0 rfl rfl kk (by omega) (by decide) dX3_lower_334 ?_
                    refine pq_top (if Y2 kk = -1 ∨ c0 < Y2 kk then c0 else Y2 kk) ((if_neg (fun h => h.elim c_32 (i_nlt c_33))).symm) ?_
                    exact J31 H locs ls hP hD hS hl
                  · refine lv_iload_n hx hb dX3_lower_324 rfl (lv_at hl 5 rfl) ?_
                    refine lv_goto (tgt := 335) hx hb dX3_lower_325 (by decide) ?_
                    refine pq_top (if Y2 kk = -1 ∨ c0 < Y2 kk then c0 else Y2 kk) ((if_pos (Or.inr (i_lt c_33))).symm) ?_
                    exact J31 H locs ls hP hD hS hl
              refine lv_aload_n hx hb dX3_lower_273 rfl (lv_at hl 2 rfl) ?_
              refine va_get (D := D) (ci := 3) (v := .ref z1) (C := RX3) (T := TX3) (N := 18) hx hb hts hin_X3 hown hK hP 0 rfl rfl 1 (by decide) hf_PressedPlainsModel_7 (fun _ h9 => h9) rfl dX3_lower_274 ?_
              refine lv_iload hx hb dX3_lower_277 (lv_at hl 0 rfl) ?_
              refine pq_iald hx hb hK hP 1 0 rfl rfl kk (by omega) (by decide) dX3_lower_279 ?_
              refine lv_iload_n hx hb dX3_lower_280 rfl (lv_at hl 5 rfl) ?_
              refine lv_icmp_le (tgt := 288) hx hb dX3_lower_281 (by decide) (fun c_34 => ?_) (fun c_34 => ?_)
              · refine lv_aload_n hx hb dX3_lower_288 rfl (lv_at hl 2 rfl) ?_
                refine va_get (D := D) (ci := 3) (v := .ref z1) (C := RX3) (T := TX3) (N := 18) hx hb hts hin_X3 hown hK hP 0 rfl rfl 1 (by decide) hf_PressedPlainsModel_7 (fun _ h9 => h9) rfl dX3_lower_289 ?_
                refine lv_iload hx hb dX3_lower_292 (lv_at hl 0 rfl) ?_
                refine pq_iald hx hb hK hP 1 0 rfl rfl kk (by omega) (by decide) dX3_lower_294 ?_
                refine pq_top (if X kk ≤ c0 then X kk else c0) ((if_pos c_34).symm) ?_
                exact J30 H locs ls hP hD hS hl
              · refine lv_iload_n hx hb dX3_lower_284 rfl (lv_at hl 5 rfl) ?_
                refine lv_goto (tgt := 295) hx hb dX3_lower_285 (by decide) ?_
                refine pq_top (if X kk ≤ c0 then X kk else c0) ((if_neg c_34).symm) ?_
                exact J30 H locs ls hP hD hS hl
        exact LP _ kf hs cs (Nat.lt_succ_self _) (Nat.le_refl _) (by omega) (by rw [Nat.sub_self] <;> rfl) (by rw [Nat.sub_self] <;> rfl) H locs ls hP hD hS (lv_sub hl [0, 1, 2, 3, 4, 5] rfl)
      · rw [if_neg b_6]
        refine W.eq (g2 := F0 m 27 ls [.int 0, .ref mo]) rfl ?_
        refine lv_if_ne (tgt := 34) hx hb dX3_lower_27 (by decide) (fun c9 => absurd c9 (by decide)) (fun _ => ?_)
        refine lv_iconst (v := 2) hx hb dX3_lower_30 (by decide) ?_
        refine lv_goto (tgt := 35) hx hb dX3_lower_31 (by decide) ?_
        refine pq_callV (wr := []) (own := RX3) (nL := 7) (q0 := 0) (ci := 3) [0, 1, 2, 3, 4, 5, 6, 7, 8, 9] [] [.int 2] (mX3_isFine l D cI mo z1 z2 z3 z4 z5 z6 z7 z8 z9 col hs cs fi la B td lf laid piled prs thr 2) ⟨hx, hb, hml, hown, hts⟩ (cwV 1 hts gX3_lower_X3_isFine rfl rfl rfl (by decide +kernel) ⟨by dsimp only [pq_R]; omega, by dsimp only [pq_R]; omega⟩) pq_bl0 (fun _ _ _ => trivial) hK hP hD hS hA rfl (by decide) rfl (by decide) (by decide) rfl rfl rfl rfl hl.1 rfl (Nat.le_of_ble_eq_true rfl) dX3_lower_35 ⟨by dsimp only [pq_R]; omega, by dsimp only [pq_R]; omega⟩ (fun v w1 H locs hq hP hD hS hz => ?_)
        obtain ⟨rfl, rfl⟩ := hq
        rw [if_neg (show ¬ (2 : Int32) = 0 by decide)]
        have hP : va_P D vwCl [(mo, .inr (3, [.int col, .ref z1, .ref z2, .ref z3, .ref z4, .ref z5, .ref z6, .ref z7, .ref z8, .ref z9, .int lf, .int B.2.2.2.2.1, .int B.2.2.2.2.2.1, .int B.2.2.2.2.2.2, .int laid, .int piled, .int prs, .int 2])), (z1, .inl (cI, 64, .inl hs)), (z2, .inl (cI, 64, .inl cs)), (z3, .inl (cI, 128, .inl fi)), (z4, .inl (cI, 128, .inl la)), (z5, .inl (cI, 128, .inl B.1)), (z6, .inl (cI, 128, .inl B.2.1)), (z7, .inl (cI, 128, .inl B.2.2.1)), (z8, .inl (cI, 128, .inl B.2.2.2.1)), (z9, .inl (cI, 64, .inl td))] H := hP
        have hD : va_D A [(mo, .inr (3, [.int col, .ref z1, .ref z2, .ref z3, .ref z4, .ref z5, .ref z6, .ref z7, .ref z8, .ref z9, .int lf, .int B.2.2.2.2.1, .int B.2.2.2.2.2.1, .int B.2.2.2.2.2.2, .int laid, .int piled, .int prs, .int 2])), (z1, .inl (cI, 64, .inl hs)), (z2, .inl (cI, 64, .inl cs)), (z3, .inl (cI, 128, .inl fi)), (z4, .inl (cI, 128, .inl la)), (z5, .inl (cI, 128, .inl B.1)), (z6, .inl (cI, 128, .inl B.2.1)), (z7, .inl (cI, 128, .inl B.2.2.1)), (z8, .inl (cI, 128, .inl B.2.2.2.1)), (z9, .inl (cI, 64, .inl td))] := hD
        refine W.eq (g2 := F0 m 38 ls [.int 0]) rfl ?_
        refine lv_if_ne (tgt := 43) hx hb dX3_lower_38 (by decide) (fun c9 => absurd c9 (by decide)) (fun _ => ?_)
        refine lv_iconst (v := 0) hx hb dX3_lower_41 (by decide) ?_
        exact pq_iret hQ hx hb hr hlocks hK hS hP hD dX3_lower_42 (by omega) (by omega) (by have hcd : cLow col x y c0 0 1000 = 2 := (by rw [cLow, if_neg b_2, if_pos (Or.inr (Classical.not_not.mp b_6))]); exact Or.inl ⟨by rw [hcd]; decide, rfl, by rw [hcd] <;> rfl⟩)
  · rw [if_neg b_2]
    refine W.eq (g2 := F0 m 7 ls [.int 0, .ref mo]) rfl ?_
    refine lv_if_ne (tgt := 14) hx hb dX3_lower_7 (by decide) (fun c9 => absurd c9 (by decide)) (fun _ => ?_)
    refine lv_iconst (v := 1) hx hb dX3_lower_10 (by decide) ?_
    refine lv_goto (tgt := 35) hx hb dX3_lower_11 (by decide) ?_
    refine pq_callV (wr := []) (own := RX3) (nL := 7) (q0 := 0) (ci := 3) [0, 1, 2, 3, 4, 5, 6, 7, 8, 9] [] [.int 1] (mX3_isFine l D cI mo z1 z2 z3 z4 z5 z6 z7 z8 z9 col hs cs fi la B td lf laid piled prs thr 1) ⟨hx, hb, hml, hown, hts⟩ (cwV 1 hts gX3_lower_X3_isFine rfl rfl rfl (by decide +kernel) ⟨by dsimp only [pq_R]; omega, by dsimp only [pq_R]; omega⟩) pq_bl0 (fun _ _ _ => trivial) hK hP hD hS hA rfl (by decide) rfl (by decide) (by decide) rfl rfl rfl rfl hl.1 rfl (Nat.le_of_ble_eq_true rfl) dX3_lower_35 ⟨by dsimp only [pq_R]; omega, by dsimp only [pq_R]; omega⟩ (fun v w1 H locs hq hP hD hS hz => ?_)
    obtain ⟨rfl, rfl⟩ := hq
    rw [if_neg (show ¬ (1 : Int32) = 0 by decide)]
    have hP : va_P D vwCl [(mo, .inr (3, [.int col, .ref z1, .ref z2, .ref z3, .ref z4, .ref z5, .ref z6, .ref z7, .ref z8, .ref z9, .int lf, .int B.2.2.2.2.1, .int B.2.2.2.2.2.1, .int B.2.2.2.2.2.2, .int laid, .int piled, .int prs, .int 1])), (z1, .inl (cI, 64, .inl hs)), (z2, .inl (cI, 64, .inl cs)), (z3, .inl (cI, 128, .inl fi)), (z4, .inl (cI, 128, .inl la)), (z5, .inl (cI, 128, .inl B.1)), (z6, .inl (cI, 128, .inl B.2.1)), (z7, .inl (cI, 128, .inl B.2.2.1)), (z8, .inl (cI, 128, .inl B.2.2.2.1)), (z9, .inl (cI, 64, .inl td))] H := hP
    have hD : va_D A [(mo, .inr (3, [.int col, .ref z1, .ref z2, .ref z3, .ref z4, .ref z5, .ref z6, .ref z7, .ref z8, .ref z9, .int lf, .int B.2.2.2.2.1, .int B.2.2.2.2.2.1, .int B.2.2.2.2.2.2, .int laid, .int piled, .int prs, .int 1])), (z1, .inl (cI, 64, .inl hs)), (z2, .inl (cI, 64, .inl cs)), (z3, .inl (cI, 128, .inl fi)), (z4, .inl (cI, 128, .inl la)), (z5, .inl (cI, 128, .inl B.1)), (z6, .inl (cI, 128, .inl B.2.1)), (z7, .inl (cI, 128, .inl B.2.2.1)), (z8, .inl (cI, 128, .inl B.2.2.2.1)), (z9, .inl (cI, 64, .inl td))] := hD
    refine W.eq (g2 := F0 m 38 ls [.int 0]) rfl ?_
    refine lv_if_ne (tgt := 43) hx hb dX3_lower_38 (by decide) (fun c9 => absurd c9 (by decide)) (fun _ => ?_)
    refine lv_iconst (v := 0) hx hb dX3_lower_41 (by decide) ?_
    exact pq_iret hQ hx hb hr hlocks hK hS hP hD dX3_lower_42 (by omega) (by omega) (by have hcd : cLow col x y c0 0 1000 = 1 := (by rw [cLow, if_pos (Classical.not_not.mp b_2)]); exact Or.inl ⟨by rw [hcd]; decide, rfl, by rw [hcd] <;> rfl⟩)
