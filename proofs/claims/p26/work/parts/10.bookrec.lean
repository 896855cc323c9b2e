set_option maxHeartbeats 4000000 in
set_option maxRecDepth 100000 in
/-- a ceiling comes to an entry and to those below it -/
theorem mX0_pressFrom (l : Launch) (D : va_G) (cI : ClassId) (h a0 a1 a2 a3 a4 a5 : Nat) (fi la : Nat → Int32) (a b c0 : Int32) : ∀ (d : Nat) (B : BK) (e : Nat), e < 128 → 128 ≤ e * 2 ^ d → pq_M l yX0_pressFrom wsX0_pressFrom (d + 3) (64 + d * 25) 0 0 D [(cI, .int)] pq_0 (bkW h a0 a1 a2 a3 a4 a5 cI fi la B) [.ref h, .int (nI e), .int a, .int b, .int c0] (fun v w1 => v = none ∧ w1 = bkW h a0 a1 a2 a3 a4 a5 cI fi la (bPressFrom fi la a b c0 d B e)) := by
  intro d
  induction d with
  | zero =>
    intro B e he hd
    simp only [Nat.pow_zero, Nat.mul_one] at hd
    omega
  | succ d ih =>
    intro B e he hd
    refine pq_enter (cc := cX0_pressFrom) (maxL := 6) (ret := none) (by decide) rfl (Nat.le_of_ble_eq_true rfl) ?_
    intro p ev s m args below meth cd A ls Q H locs hx hb hr hml hts hown hlocks hnm hK hP hD hS hA hE hl hQ
    have hl : lv_has ls 6 [(0, .ref h), (1, .int (nI e)), (2, .int a), (3, .int b), (4, .int c0)] := hl
    have hP : va_P D vwCl [(h, .inr (0, [.ref a0, .ref a1, .ref a2, .ref a3, .ref a4, .ref a5, .int B.2.2.2.2.1, .int B.2.2.2.2.2.1, .int B.2.2.2.2.2.2])), (a0, .inl (cI, 128, .inl fi)), (a1, .inl (cI, 128, .inl la)), (a2, .inl (cI, 128, .inl B.1)), (a3, .inl (cI, 128, .inl B.2.1)), (a4, .inl (cI, 128, .inl B.2.2.1)), (a5, .inl (cI, 128, .inl B.2.2.2.1))] H := hP
    have hD : va_D A [(h, .inr (0, [.ref a0, .ref a1, .ref a2, .ref a3, .ref a4, .ref a5, .int B.2.2.2.2.1, .int B.2.2.2.2.2.1, .int B.2.2.2.2.2.2])), (a0, .inl (cI, 128, .inl fi)), (a1, .inl (cI, 128, .inl la)), (a2, .inl (cI, 128, .inl B.1)), (a3, .inl (cI, 128, .inl B.2.1)), (a4, .inl (cI, 128, .inl B.2.2.1)), (a5, .inl (cI, 128, .inl B.2.2.2.1))] := hD
    have hin_X0 : ∀ w ∈ wsX00, w ∈ wsX0_pressFrom := by decide +kernel
    have hf_PressedPlains_Book_18 := hts (.fieldLink RX0 18 "PressedPlains$Book" "greatest" "[I") (by decide +kernel)
    have hf_PressedPlains_Book_21 := hts (.fieldLink RX0 21 "PressedPlains$Book" "second" "[I") (by decide +kernel)
    refine lv_aload_n hx hb dX0_pressFrom_0 rfl (lv_at hl 0 rfl) ?_
    refine pq_callV (wr := []) (own := RX0) (nL := 6) (q0 := 0) (ci := 0) [0, 1, 2, 3, 4, 5, 6] [] [] (mX0_countVisit l D cI h a0 a1 a2 a3 a4 a5 fi la B ) ⟨hx, hb, hml, hown, hts⟩ (cwV 0 hts gX0_pressFrom_X0_countVisit rfl rfl rfl (by decide +kernel) ⟨by dsimp only [pq_R]; omega, by dsimp only [pq_R]; omega⟩) pq_bl0 (fun _ _ _ => trivial) hK hP hD hS hA rfl (by decide) rfl (by decide) (by decide) rfl rfl rfl rfl hl.1 rfl (Nat.le_of_ble_eq_true rfl) dX0_pressFrom_1 ⟨by dsimp only [pq_R]; omega, by dsimp only [pq_R]; omega⟩ (fun v w1 H locs hq hP hD hS hz => ?_)
    obtain ⟨rfl, rfl⟩ := hq
    obtain ⟨B_1, hB_1⟩ : ∃ zz, zz = bVisit B := ⟨_, rfl⟩
    rw [← hB_1] at hP hD
    have hP : va_P D vwCl [(h, .inr (0, [.ref a0, .ref a1, .ref a2, .ref a3, .ref a4, .ref a5, .int B_1.2.2.2.2.1, .int B_1.2.2.2.2.2.1, .int B_1.2.2.2.2.2.2])), (a0, .inl (cI, 128, .inl fi)), (a1, .inl (cI, 128, .inl la)), (a2, .inl (cI, 128, .inl B_1.1)), (a3, .inl (cI, 128, .inl B_1.2.1)), (a4, .inl (cI, 128, .inl B_1.2.2.1)), (a5, .inl (cI, 128, .inl B_1.2.2.2.1))] H := hP
    have hD : va_D A [(h, .inr (0, [.ref a0, .ref a1, .ref a2, .ref a3, .ref a4, .ref a5, .int B_1.2.2.2.2.1, .int B_1.2.2.2.2.2.1, .int B_1.2.2.2.2.2.2])), (a0, .inl (cI, 128, .inl fi)), (a1, .inl (cI, 128, .inl la)), (a2, .inl (cI, 128, .inl B_1.1)), (a3, .inl (cI, 128, .inl B_1.2.1)), (a4, .inl (cI, 128, .inl B_1.2.2.1)), (a5, .inl (cI, 128, .inl B_1.2.2.2.1))] := hD
    refine W.eq (g2 := F0 m 4 ls []) rfl ?_
    refine lv_aload_n hx hb dX0_pressFrom_4 rfl (lv_at hl 0 rfl) ?_
    refine lv_iload_n hx hb dX0_pressFrom_5 rfl (lv_at hl 1 rfl) ?_
    refine lv_iload_n hx hb dX0_pressFrom_6 rfl (lv_at hl 2 rfl) ?_
    refine lv_iload_n hx hb dX0_pressFrom_7 rfl (lv_at hl 3 rfl) ?_
    refine pq_callV (wr := []) (own := RX0) (nL := 6) (q0 := 0) (ci := 0) [0, 1, 2, 3, 4, 5, 6] [] [.int (nI e), .int a, .int b] (mX0_isApart l D cI h a0 a1 a2 a3 a4 a5 fi la B_1 e a b (by omega)) ⟨hx, hb, hml, hown, hts⟩ (cwV 3 hts gX0_pressFrom_X0_isApart rfl rfl rfl (by decide +kernel) ⟨by dsimp only [pq_R]; omega, by dsimp only [pq_R]; omega⟩) pq_bl0 (fun _ _ _ => trivial) hK hP hD hS hA rfl (by decide) rfl (by decide) (by decide) rfl rfl rfl rfl hl.1 rfl (Nat.le_of_ble_eq_true rfl) dX0_pressFrom_8 ⟨by dsimp only [pq_R]; omega, by dsimp only [pq_R]; omega⟩ (fun v w1 H locs hq hP hD hS hz => ?_)
    obtain ⟨rfl, rfl⟩ := hq
    have hP : va_P D vwCl [(h, .inr (0, [.ref a0, .ref a1, .ref a2, .ref a3, .ref a4, .ref a5, .int B_1.2.2.2.2.1, .int B_1.2.2.2.2.2.1, .int B_1.2.2.2.2.2.2])), (a0, .inl (cI, 128, .inl fi)), (a1, .inl (cI, 128, .inl la)), (a2, .inl (cI, 128, .inl B_1.1)), (a3, .inl (cI, 128, .inl B_1.2.1)), (a4, .inl (cI, 128, .inl B_1.2.2.1)), (a5, .inl (cI, 128, .inl B_1.2.2.2.1))] H := hP
    have hD : va_D A [(h, .inr (0, [.ref a0, .ref a1, .ref a2, .ref a3, .ref a4, .ref a5, .int B_1.2.2.2.2.1, .int B_1.2.2.2.2.2.1, .int B_1.2.2.2.2.2.2])), (a0, .inl (cI, 128, .inl fi)), (a1, .inl (cI, 128, .inl la)), (a2, .inl (cI, 128, .inl B_1.1)), (a3, .inl (cI, 128, .inl B_1.2.1)), (a4, .inl (cI, 128, .inl B_1.2.2.1)), (a5, .inl (cI, 128, .inl B_1.2.2.2.1))] := hD
    by_cases b_2 : bAp fi la e a b
    · rw [if_pos b_2]
      refine W.eq (g2 := F0 m 11 ls [.int 1]) rfl ?_
      refine lv_if_ne (tgt := 25) hx hb dX0_pressFrom_11 (by decide) (fun _ => ?_) (fun c9 => absurd c9 (by decide))
      exact pq_vret hQ hx hb hr hlocks hK hS hP hD dX0_pressFrom_25 (by omega) (by omega) (⟨rfl, by subst hB_1; rw [bPressFrom, if_pos (Or.inl b_2)] <;> rfl⟩)
    · rw [if_neg b_2]
      refine W.eq (g2 := F0 m 11 ls [.int 0]) rfl ?_
      refine lv_if_ne (tgt := 25) hx hb dX0_pressFrom_11 (by decide) (fun c9 => absurd c9 (by decide)) (fun _ => ?_)
      refine lv_aload_n hx hb dX0_pressFrom_14 rfl (lv_at hl 0 rfl) ?_
      refine va_get (D := D) (ci := 0) (v := .ref a2) (C := RX0) (T := TX0) (N := 9) hx hb hts hin_X0 hown hK hP 0 rfl rfl 2 (by decide) hf_PressedPlains_Book_18 (fun _ h9 => h9) rfl dX0_pressFrom_15 ?_
      refine lv_iload_n hx hb dX0_pressFrom_18 rfl (lv_at hl 1 rfl) ?_
      refine pq_iald hx hb hK hP 3 0 rfl rfl e (by omega) (by decide) dX0_pressFrom_19 ?_
      refine lv_iload hx hb dX0_pressFrom_20 (lv_at hl 4 rfl) ?_
      refine lv_icmp_gt (tgt := 26) hx hb dX0_pressFrom_22 (by decide) (fun c_3 => ?_) (fun c_3 => ?_)
      · have J : ∀ (v : Int32), v = (if bWi fi la e a b ∧ ¬ c0 ≤ B_1.2.1 e then 1 else 0) → ∀ (H : Heap) (locs : List Loc) (ls : Array Slot), va_P D vwCl [(h, .inr (0, [.ref a0, .ref a1, .ref a2, .ref a3, .ref a4, .ref a5, .int B_1.2.2.2.2.1, .int B_1.2.2.2.2.2.1, .int B_1.2.2.2.2.2.2])), (a0, .inl (cI, 128, .inl fi)), (a1, .inl (cI, 128, .inl la)), (a2, .inl (cI, 128, .inl B_1.1)), (a3, .inl (cI, 128, .inl B_1.2.1)), (a4, .inl (cI, 128, .inl B_1.2.2.1)), (a5, .inl (cI, 128, .inl B_1.2.2.2.1))] H → va_D A [(h, .inr (0, [.ref a0, .ref a1, .ref a2, .ref a3, .ref a4, .ref a5, .int B_1.2.2.2.2.1, .int B_1.2.2.2.2.2.1, .int B_1.2.2.2.2.2.2])), (a0, .inl (cI, 128, .inl fi)), (a1, .inl (cI, 128, .inl la)), (a2, .inl (cI, 128, .inl B_1.1)), (a3, .inl (cI, 128, .inl B_1.2.1)), (a4, .inl (cI, 128, .inl B_1.2.2.1)), (a5, .inl (cI, 128, .inl B_1.2.2.2.1))] → va_S A s.heap H locs → lv_has ls 6 [(0, .ref h), (1, .int (nI e)), (2, .int a), (3, .int b), (4, .int c0)] → W p l ev (pq_R (d + 1 + 3) (64 + (d + 1) * 25) 0 0) s m args below meth cd H locs 0 0 Q (F0 m 52 ls [.int v]) := by
          intro v hv H locs ls hP hD hS hl
          by_cases j_4 : bWi fi la e a b ∧ ¬ c0 ≤ B_1.2.1 e
          · rw [if_pos j_4] at hv
            subst hv
            refine lv_istore (lv' := [(5, .int 1), (0, .ref h), (1, .int (nI e)), (2, .int a), (3, .int b), (4, .int c0)]) hx hb dX0_pressFrom_52 hl (by decide) rfl (fun ls hl => ?_)
            refine lv_iload hx hb dX0_pressFrom_54 (lv_at hl 0 rfl) ?_
            refine lv_if_ne (tgt := 67) hx hb dX0_pressFrom_56 (by decide) (fun _ => ?_) (fun c9 => absurd c9 (by decide))
            refine lv_aload_n hx hb dX0_pressFrom_67 rfl (lv_at hl 1 rfl) ?_
            refine lv_iload_n hx hb dX0_pressFrom_68 rfl (lv_at hl 2 rfl) ?_
            refine lv_iload hx hb dX0_pressFrom_69 (lv_at hl 5 rfl) ?_
            refine pq_callV (wr := []) (own := RX0) (nL := 6) (q0 := 0) (ci := 0) [0, 1, 2, 3, 4, 5, 6] [] [.int (nI e), .int c0] (mX0_pressDown l D cI h a0 a1 a2 a3 a4 a5 fi la B_1 e c0 (by omega)) ⟨hx, hb, hml, hown, hts⟩ (cwV 2 hts gX0_pressFrom_X0_pressDown rfl rfl rfl (by decide +kernel) ⟨by dsimp only [pq_R]; omega, by dsimp only [pq_R]; omega⟩) pq_bl0 (fun _ _ _ => trivial) hK hP hD hS hA rfl (by decide) rfl (by decide) (by decide) rfl rfl rfl rfl hl.1 rfl (Nat.le_of_ble_eq_true rfl) dX0_pressFrom_71 ⟨by dsimp only [pq_R]; omega, by dsimp only [pq_R]; omega⟩ (fun v w1 H locs hq hP hD hS hz => ?_)
            obtain ⟨rfl, rfl⟩ := hq
            obtain ⟨B_5, hB_5⟩ : ∃ zz, zz = bPress B_1 e c0 := ⟨_, rfl⟩
            rw [← hB_5] at hP hD
            have hP : va_P D vwCl [(h, .inr (0, [.ref a0, .ref a1, .ref a2, .ref a3, .ref a4, .ref a5, .int B_5.2.2.2.2.1, .int B_5.2.2.2.2.2.1, .int B_5.2.2.2.2.2.2])), (a0, .inl (cI, 128, .inl fi)), (a1, .inl (cI, 128, .inl la)), (a2, .inl (cI, 128, .inl B_5.1)), (a3, .inl (cI, 128, .inl B_5.2.1)), (a4, .inl (cI, 128, .inl B_5.2.2.1)), (a5, .inl (cI, 128, .inl B_5.2.2.2.1))] H := hP
            have hD : va_D A [(h, .inr (0, [.ref a0, .ref a1, .ref a2, .ref a3, .ref a4, .ref a5, .int B_5.2.2.2.2.1, .int B_5.2.2.2.2.2.1, .int B_5.2.2.2.2.2.2])), (a0, .inl (cI, 128, .inl fi)), (a1, .inl (cI, 128, .inl la)), (a2, .inl (cI, 128, .inl B_5.1)), (a3, .inl (cI, 128, .inl B_5.2.1)), (a4, .inl (cI, 128, .inl B_5.2.2.1)), (a5, .inl (cI, 128, .inl B_5.2.2.2.1))] := hD
            refine W.eq (g2 := F0 m 74 ls []) rfl ?_
            exact pq_vret hQ hx hb hr hlocks hK hS hP hD dX0_pressFrom_74 (by omega) (by omega) (⟨rfl, by subst hB_5; subst hB_1; rw [bPressFrom, if_neg (fun h => h.elim b_2 (fun h => h c_3)), if_pos (Or.inl j_4)] <;> rfl⟩)
          · rw [if_neg j_4] at hv
            subst hv
            refine lv_istore (lv' := [(5, .int 0), (0, .ref h), (1, .int (nI e)), (2, .int a), (3, .int b), (4, .int c0)]) hx hb dX0_pressFrom_52 hl (by decide) rfl (fun ls hl => ?_)
            refine lv_iload hx hb dX0_pressFrom_54 (lv_at hl 0 rfl) ?_
            refine lv_if_ne (tgt := 67) hx hb dX0_pressFrom_56 (by decide) (fun c9 => absurd c9 (by decide)) (fun _ => ?_)
            refine lv_aload_n hx hb dX0_pressFrom_59 rfl (lv_at hl 1 rfl) ?_
            refine lv_iload_n hx hb dX0_pressFrom_60 rfl (lv_at hl 2 rfl) ?_
            refine pq_callV (wr := []) (own := RX0) (nL := 6) (q0 := 0) (ci := 0) [0, 1, 2, 3, 4, 5, 6] [] [.int (nI e)] (mX0_hasParts l D cI h a0 a1 a2 a3 a4 a5 fi la B_1 e (by omega)) ⟨hx, hb, hml, hown, hts⟩ (cwV 1 hts gX0_pressFrom_X0_hasParts rfl rfl rfl (by decide +kernel) ⟨by dsimp only [pq_R]; omega, by dsimp only [pq_R]; omega⟩) pq_bl0 (fun _ _ _ => trivial) hK hP hD hS hA rfl (by decide) rfl (by decide) (by decide) rfl rfl rfl rfl hl.1 rfl (Nat.le_of_ble_eq_true rfl) dX0_pressFrom_61 ⟨by dsimp only [pq_R]; omega, by dsimp only [pq_R]; omega⟩ (fun v w1 H locs hq hP hD hS hz => ?_)
            obtain ⟨rfl, rfl⟩ := hq
            have hP : va_P D vwCl [(h, .inr (0, [.ref a0, .ref a1, .ref a2, .ref a3, .ref a4, .ref a5, .int B_1.2.2.2.2.1, .int B_1.2.2.2.2.2.1, .int B_1.2.2.2.2.2.2])), (a0, .inl (cI, 128, .inl fi)), (a1, .inl (cI, 128, .inl la)), (a2, .inl (cI, 128, .inl B_1.1)), (a3, .inl (cI, 128, .inl B_1.2.1)), (a4, .inl (cI, 128, .inl B_1.2.2.1)), (a5, .inl (cI, 128, .inl B_1.2.2.2.1))] H := hP
            have hD : va_D A [(h, .inr (0, [.ref a0, .ref a1, .ref a2, .ref a3, .ref a4, .ref a5, .int B_1.2.2.2.2.1, .int B_1.2.2.2.2.2.1, .int B_1.2.2.2.2.2.2])), (a0, .inl (cI, 128, .inl fi)), (a1, .inl (cI, 128, .inl la)), (a2, .inl (cI, 128, .inl B_1.1)), (a3, .inl (cI, 128, .inl B_1.2.1)), (a4, .inl (cI, 128, .inl B_1.2.2.1)), (a5, .inl (cI, 128, .inl B_1.2.2.2.1))] := hD
            by_cases b_6 : bHp fi la e
            · have he64 : e < 64 := bHp_lt (by omega) b_6
              rw [if_pos b_6]
              refine W.eq (g2 := F0 m 64 ls [.int 1]) rfl ?_
              refine lv_if_ne (tgt := 75) hx hb dX0_pressFrom_64 (by decide) (fun _ => ?_) (fun c9 => absurd c9 (by decide))
              refine lv_aload_n hx hb dX0_pressFrom_75 rfl (lv_at hl 1 rfl) ?_
              refine lv_iload_n hx hb dX0_pressFrom_76 rfl (lv_at hl 2 rfl) ?_
              refine pq_callV (wr := []) (own := RX0) (nL := 6) (q0 := 0) (ci := 0) [0, 1, 2, 3, 4, 5, 6] [] [.int (nI e)] (mX0_catchUpBelow l D cI h a0 a1 a2 a3 a4 a5 fi la B_1 e (by omega)) ⟨hx, hb, hml, hown, hts⟩ (cwV 1 hts gX0_pressFrom_X0_catchUpBelow rfl rfl rfl (by decide +kernel) ⟨by dsimp only [pq_R]; omega, by dsimp only [pq_R]; omega⟩) pq_bl0 (fun _ _ _ => trivial) hK hP hD hS hA rfl (by decide) rfl (by decide) (by decide) rfl rfl rfl rfl hl.1 rfl (Nat.le_of_ble_eq_true rfl) dX0_pressFrom_77 ⟨by dsimp only [pq_R]; omega, by dsimp only [pq_R]; omega⟩ (fun v w1 H locs hq hP hD hS hz => ?_)
              obtain ⟨rfl, rfl⟩ := hq
              obtain ⟨B_7, hB_7⟩ : ∃ zz, zz = bCatch2 B_1 e := ⟨_, rfl⟩
              rw [← hB_7] at hP hD
              have hP : va_P D vwCl [(h, .inr (0, [.ref a0, .ref a1, .ref a2, .ref a3, .ref a4, .ref a5, .int B_7.2.2.2.2.1, .int B_7.2.2.2.2.2.1, .int B_7.2.2.2.2.2.2])), (a0, .inl (cI, 128, .inl fi)), (a1, .inl (cI, 128, .inl la)), (a2, .inl (cI, 128, .inl B_7.1)), (a3, .inl (cI, 128, .inl B_7.2.1)), (a4, .inl (cI, 128, .inl B_7.2.2.1)), (a5, .inl (cI, 128, .inl B_7.2.2.2.1))] H := hP
              have hD : va_D A [(h, .inr (0, [.ref a0, .ref a1, .ref a2, .ref a3, .ref a4, .ref a5, .int B_7.2.2.2.2.1, .int B_7.2.2.2.2.2.1, .int B_7.2.2.2.2.2.2])), (a0, .inl (cI, 128, .inl fi)), (a1, .inl (cI, 128, .inl la)), (a2, .inl (cI, 128, .inl B_7.1)), (a3, .inl (cI, 128, .inl B_7.2.1)), (a4, .inl (cI, 128, .inl B_7.2.2.1)), (a5, .inl (cI, 128, .inl B_7.2.2.2.1))] := hD
              refine W.eq (g2 := F0 m 80 ls []) rfl ?_
              refine lv_aload_n hx hb dX0_pressFrom_80 rfl (lv_at hl 1 rfl) ?_
              refine lv_iconst (v := 2) hx hb dX0_pressFrom_81 (by decide) ?_
              refine lv_iload_n hx hb dX0_pressFrom_82 rfl (lv_at hl 2 rfl) ?_
              refine lv_imul hx hb dX0_pressFrom_83 ?_
              refine pq_top (nI (2 * e)) (pk_mul 2 _) ?_
              refine lv_iload_n hx hb dX0_pressFrom_84 rfl (lv_at hl 3 rfl) ?_
              refine lv_iload_n hx hb dX0_pressFrom_85 rfl (lv_at hl 4 rfl) ?_
              refine lv_iload hx hb dX0_pressFrom_86 (lv_at hl 5 rfl) ?_
              refine pq_callV (wr := []) (own := RX0) (nL := 6) (q0 := 0) (ci := 0) [0, 1, 2, 3, 4, 5, 6] [] [.int (nI (2 * e)), .int a, .int b, .int c0] (ih B_7 (2 * e) (by omega) (pw_1 hd)) ⟨hx, hb, hml, hown, hts⟩ (cwV 4 hts gX0_pressFrom_X0_pressFrom rfl rfl rfl (by decide +kernel) ⟨by dsimp only [pq_R]; omega, by dsimp only [pq_R]; omega⟩) pq_bl0 (fun _ _ _ => trivial) hK hP hD hS hA rfl (by decide) rfl (by decide) (by decide) rfl rfl rfl rfl hl.1 rfl (Nat.le_of_ble_eq_true rfl) dX0_pressFrom_88 ⟨by dsimp only [pq_R]; omega, by dsimp only [pq_R]; omega⟩ (fun v w1 H locs hq hP hD hS hz => ?_)
              obtain ⟨rfl, rfl⟩ := hq
              obtain ⟨B_8, hB_8⟩ : ∃ zz, zz = bPressFrom fi la a b c0 d B_7 (2 * e) := ⟨_, rfl⟩
              rw [← hB_8] at hP hD
              have hP : va_P D vwCl [(h, .inr (0, [.ref a0, .ref a1, .ref a2, .ref a3, .ref a4, .ref a5, .int B_8.2.2.2.2.1, .int B_8.2.2.2.2.2.1, .int B_8.2.2.2.2.2.2])), (a0, .inl (cI, 128, .inl fi)), (a1, .inl (cI, 128, .inl la)), (a2, .inl (cI, 128, .inl B_8.1)), (a3, .inl (cI, 128, .inl B_8.2.1)), (a4, .inl (cI, 128, .inl B_8.2.2.1)), (a5, .inl (cI, 128, .inl B_8.2.2.2.1))] H := hP
              have hD : va_D A [(h, .inr (0, [.ref a0, .ref a1, .ref a2, .ref a3, .ref a4, .ref a5, .int B_8.2.2.2.2.1, .int B_8.2.2.2.2.2.1, .int B_8.2.2.2.2.2.2])), (a0, .inl (cI, 128, .inl fi)), (a1, .inl (cI, 128, .inl la)), (a2, .inl (cI, 128, .inl B_8.1)), (a3, .inl (cI, 128, .inl B_8.2.1)), (a4, .inl (cI, 128, .inl B_8.2.2.1)), (a5, .inl (cI, 128, .inl B_8.2.2.2.1))] := hD
              refine W.eq (g2 := F0 m 91 ls []) rfl ?_
              refine lv_aload_n hx hb dX0_pressFrom_91 rfl (lv_at hl 1 rfl) ?_
              refine lv_iconst (v := 2) hx hb dX0_pressFrom_92 (by decide) ?_
              refine lv_iload_n hx hb dX0_pressFrom_93 rfl (lv_at hl 2 rfl) ?_
              refine lv_imul hx hb dX0_pressFrom_94 ?_
              refine pq_top (nI (2 * e)) (pk_mul 2 _) ?_
              refine lv_iconst (v := 1) hx hb dX0_pressFrom_95 (by decide) ?_
              refine lv_iadd hx hb dX0_pressFrom_96 ?_
              refine pq_top (nI ((2 * e) + 1)) (nI_1 _) ?_
              refine lv_iload_n hx hb dX0_pressFrom_97 rfl (lv_at hl 3 rfl) ?_
              refine lv_iload_n hx hb dX0_pressFrom_98 rfl (lv_at hl 4 rfl) ?_
              refine lv_iload hx hb dX0_pressFrom_99 (lv_at hl 5 rfl) ?_
              refine pq_callV (wr := []) (own := RX0) (nL := 6) (q0 := 0) (ci := 0) [0, 1, 2, 3, 4, 5, 6] [] [.int (nI ((2 * e) + 1)), .int a, .int b, .int c0] (ih B_8 ((2 * e) + 1) (by omega) (pw_2 hd)) ⟨hx, hb, hml, hown, hts⟩ (cwV 4 hts gX0_pressFrom_X0_pressFrom rfl rfl rfl (by decide +kernel) ⟨by dsimp only [pq_R]; omega, by dsimp only [pq_R]; omega⟩) pq_bl0 (fun _ _ _ => trivial) hK hP hD hS hA rfl (by decide) rfl (by decide) (by decide) rfl rfl rfl rfl hl.1 rfl (Nat.le_of_ble_eq_true rfl) dX0_pressFrom_101 ⟨by dsimp only [pq_R]; omega, by dsimp only [pq_R]; omega⟩ (fun v w1 H locs hq hP hD hS hz => ?_)
              obtain ⟨rfl, rfl⟩ := hq
              obtain ⟨B_9, hB_9⟩ : ∃ zz, zz = bPressFrom fi la a b c0 d B_8 ((2 * e) + 1) := ⟨_, rfl⟩
              rw [← hB_9] at hP hD
              have hP : va_P D vwCl [(h, .inr (0, [.ref a0, .ref a1, .ref a2, .ref a3, .ref a4, .ref a5, .int B_9.2.2.2.2.1, .int B_9.2.2.2.2.2.1, .int B_9.2.2.2.2.2.2])), (a0, .inl (cI, 128, .inl fi)), (a1, .inl (cI, 128, .inl la)), (a2, .inl (cI, 128, .inl B_9.1)), (a3, .inl (cI, 128, .inl B_9.2.1)), (a4, .inl (cI, 128, .inl B_9.2.2.1)), (a5, .inl (cI, 128, .inl B_9.2.2.2.1))] H := hP
              have hD : va_D A [(h, .inr (0, [.ref a0, .ref a1, .ref a2, .ref a3, .ref a4, .ref a5, .int B_9.2.2.2.2.1, .int B_9.2.2.2.2.2.1, .int B_9.2.2.2.2.2.2])), (a0, .inl (cI, 128, .inl fi)), (a1, .inl (cI, 128, .inl la)), (a2, .inl (cI, 128, .inl B_9.1)), (a3, .inl (cI, 128, .inl B_9.2.1)), (a4, .inl (cI, 128, .inl B_9.2.2.1)), (a5, .inl (cI, 128, .inl B_9.2.2.2.1))] := hD
              refine W.eq (g2 := F0 m 104 ls []) rfl ?_
              refine lv_aload_n hx hb dX0_pressFrom_104 rfl (lv_at hl 1 rfl) ?_
              refine lv_iload_n hx hb dX0_pressFrom_105 rfl (lv_at hl 2 rfl) ?_
              refine pq_callV (wr := []) (own := RX0) (nL := 6) (q0 := 0) (ci := 0) [0, 1, 2, 3, 4, 5, 6] [] [.int (nI e)] (mX0_tellAnew l D cI h a0 a1 a2 a3 a4 a5 fi la B_9 e (by omega)) ⟨hx, hb, hml, hown, hts⟩ (cwV 1 hts gX0_pressFrom_X0_tellAnew rfl rfl rfl (by decide +kernel) ⟨by dsimp only [pq_R]; omega, by dsimp only [pq_R]; omega⟩) pq_bl0 (fun _ _ _ => trivial) hK hP hD hS hA rfl (by decide) rfl (by decide) (by decide) rfl rfl rfl rfl hl.1 rfl (Nat.le_of_ble_eq_true rfl) dX0_pressFrom_106 ⟨by dsimp only [pq_R]; omega, by dsimp only [pq_R]; omega⟩ (fun v w1 H locs hq hP hD hS hz => ?_)
              obtain ⟨rfl, rfl⟩ := hq
              obtain ⟨B_10, hB_10⟩ : ∃ zz, zz = bTell B_9 e := ⟨_, rfl⟩
              rw [← hB_10] at hP hD
              have hP : va_P D vwCl [(h, .inr (0, [.ref a0, .ref a1, .ref a2, .ref a3, .ref a4, .ref a5, .int B_10.2.2.2.2.1, .int B_10.2.2.2.2.2.1, .int B_10.2.2.2.2.2.2])), (a0, .inl (cI, 128, .inl fi)), (a1, .inl (cI, 128, .inl la)), (a2, .inl (cI, 128, .inl B_10.1)), (a3, .inl (cI, 128, .inl B_10.2.1)), (a4, .inl (cI, 128, .inl B_10.2.2.1)), (a5, .inl (cI, 128, .inl B_10.2.2.2.1))] H := hP
              have hD : va_D A [(h, .inr (0, [.ref a0, .ref a1, .ref a2, .ref a3, .ref a4, .ref a5, .int B_10.2.2.2.2.1, .int B_10.2.2.2.2.2.1, .int B_10.2.2.2.2.2.2])), (a0, .inl (cI, 128, .inl fi)), (a1, .inl (cI, 128, .inl la)), (a2, .inl (cI, 128, .inl B_10.1)), (a3, .inl (cI, 128, .inl B_10.2.1)), (a4, .inl (cI, 128, .inl B_10.2.2.1)), (a5, .inl (cI, 128, .inl B_10.2.2.2.1))] := hD
              refine W.eq (g2 := F0 m 109 ls []) rfl ?_
              exact pq_vret hQ hx hb hr hlocks hK hS hP hD dX0_pressFrom_109 (by omega) (by omega) (⟨rfl, by subst hB_10; subst hB_9; subst hB_8; subst hB_7; subst hB_1; rw [bPressFrom, if_neg (fun h => h.elim b_2 (fun h => h c_3)), if_neg (fun h => h.elim j_4 (fun h => h b_6))] <;> rfl⟩)
            · rw [if_neg b_6]
              refine W.eq (g2 := F0 m 64 ls [.int 0]) rfl ?_
              refine lv_if_ne (tgt := 75) hx hb dX0_pressFrom_64 (by decide) (fun c9 => absurd c9 (by decide)) (fun _ => ?_)
              refine lv_aload_n hx hb dX0_pressFrom_67 rfl (lv_at hl 1 rfl) ?_
              refine lv_iload_n hx hb dX0_pressFrom_68 rfl (lv_at hl 2 rfl) ?_
              refine lv_iload hx hb dX0_pressFrom_69 (lv_at hl 5 rfl) ?_
              refine pq_callV (wr := []) (own := RX0) (nL := 6) (q0 := 0) (ci := 0) [0, 1, 2, 3, 4, 5, 6] [] [.int (nI e), .int c0] (mX0_pressDown l D cI h a0 a1 a2 a3 a4 a5 fi la B_1 e c0 (by omega)) ⟨hx, hb, hml, hown, hts⟩ (cwV 2 hts gX0_pressFrom_X0_pressDown rfl rfl rfl (by decide +kernel) ⟨by dsimp only [pq_R]; omega, by dsimp only [pq_R]; omega⟩) pq_bl0 (fun _ _ _ => trivial) hK hP hD hS hA rfl (by decide) rfl (by decide) (by decide) rfl rfl rfl rfl hl.1 rfl (Nat.le_of_ble_eq_true rfl) dX0_pressFrom_71 ⟨by dsimp only [pq_R]; omega, by dsimp only [pq_R]; omega⟩ (fun v w1 H locs hq hP hD hS hz => ?_)
              obtain ⟨rfl, rfl⟩ := hq
              obtain ⟨B_11, hB_11⟩ : ∃ zz, zz = bPress B_1 e c0 := ⟨_, rfl⟩
              rw [← hB_11] at hP hD
              have hP : va_P D vwCl [(h, .inr (0, [.ref a0, .ref a1, .ref a2, .ref a3, .ref a4, .ref a5, .int B_11.2.2.2.2.1, .int B_11.2.2.2.2.2.1, .int B_11.2.2.2.2.2.2])), (a0, .inl (cI, 128, .inl fi)), (a1, .inl (cI, 128, .inl la)), (a2, .inl (cI, 128, .inl B_11.1)), (a3, .inl (cI, 128, .inl B_11.2.1)), (a4, .inl (cI, 128, .inl B_11.2.2.1)), (a5, .inl (cI, 128, .inl B_11.2.2.2.1))] H := hP
              have hD : va_D A [(h, .inr (0, [.ref a0, .ref a1, .ref a2, .ref a3, .ref a4, .ref a5, .int B_11.2.2.2.2.1, .int B_11.2.2.2.2.2.1, .int B_11.2.2.2.2.2.2])), (a0, .inl (cI, 128, .inl fi)), (a1, .inl (cI, 128, .inl la)), (a2, .inl (cI, 128, .inl B_11.1)), (a3, .inl (cI, 128, .inl B_11.2.1)), (a4, .inl (cI, 128, .inl B_11.2.2.1)), (a5, .inl (cI, 128, .inl B_11.2.2.2.1))] := hD
              refine W.eq (g2 := F0 m 74 ls []) rfl ?_
              exact pq_vret hQ hx hb hr hlocks hK hS hP hD dX0_pressFrom_74 (by omega) (by omega) (⟨rfl, by subst hB_11; subst hB_1; rw [bPressFrom, if_neg (fun h => h.elim b_2 (fun h => h c_3)), if_pos (Or.inr b_6)] <;> rfl⟩)
        refine lv_aload_n hx hb dX0_pressFrom_26 rfl (lv_at hl 0 rfl) ?_
        refine lv_iload_n hx hb dX0_pressFrom_27 rfl (lv_at hl 1 rfl) ?_
        refine lv_iload_n hx hb dX0_pressFrom_28 rfl (lv_at hl 2 rfl) ?_
        refine lv_iload_n hx hb dX0_pressFrom_29 rfl (lv_at hl 3 rfl) ?_
        refine pq_callV (wr := []) (own := RX0) (nL := 6) (q0 := 0) (ci := 0) [0, 1, 2, 3, 4, 5, 6] [] [.int (nI e), .int a, .int b] (mX0_isWithin l D cI h a0 a1 a2 a3 a4 a5 fi la B_1 e a b (by omega)) ⟨hx, hb, hml, hown, hts⟩ (cwV 3 hts gX0_pressFrom_X0_isWithin rfl rfl rfl (by decide +kernel) ⟨by dsimp only [pq_R]; omega, by dsimp only [pq_R]; omega⟩) pq_bl0 (fun _ _ _ => trivial) hK hP hD hS hA rfl (by decide) rfl (by decide) (by decide) rfl rfl rfl rfl hl.1 rfl (Nat.le_of_ble_eq_true rfl) dX0_pressFrom_30 ⟨by dsimp only [pq_R]; omega, by dsimp only [pq_R]; omega⟩ (fun v w1 H locs hq hP hD hS hz => ?_)
        obtain ⟨rfl, rfl⟩ := hq
        have hP : va_P D vwCl [(h, .inr (0, [.ref a0, .ref a1, .ref a2, .ref a3, .ref a4, .ref a5, .int B_1.2.2.2.2.1, .int B_1.2.2.2.2.2.1, .int B_1.2.2.2.2.2.2])), (a0, .inl (cI, 128, .inl fi)), (a1, .inl (cI, 128, .inl la)), (a2, .inl (cI, 128, .inl B_1.1)), (a3, .inl (cI, 128, .inl B_1.2.1)), (a4, .inl (cI, 128, .inl B_1.2.2.1)), (a5, .inl (cI, 128, .inl B_1.2.2.2.1))] H := hP
        have hD : va_D A [(h, .inr (0, [.ref a0, .ref a1, .ref a2, .ref a3, .ref a4, .ref a5, .int B_1.2.2.2.2.1, .int B_1.2.2.2.2.2.1, .int B_1.2.2.2.2.2.2])), (a0, .inl (cI, 128, .inl fi)), (a1, .inl (cI, 128, .inl la)), (a2, .inl (cI, 128, .inl B_1.1)), (a3, .inl (cI, 128, .inl B_1.2.1)), (a4, .inl (cI, 128, .inl B_1.2.2.1)), (a5, .inl (cI, 128, .inl B_1.2.2.2.1))] := hD
        by_cases b_12 : bWi fi la e a b
        · rw [if_pos b_12]
          refine W.eq (g2 := F0 m 33 ls [.int 1]) rfl ?_
          refine lv_if_eq (tgt := 51) hx hb dX0_pressFrom_33 (by decide) (fun c9 => absurd c9 (by decide)) (fun _ => ?_)
          refine lv_aload_n hx hb dX0_pressFrom_36 rfl (lv_at hl 0 rfl) ?_
          refine va_get (D := D) (ci := 0) (v := .ref a3) (C := RX0) (T := TX0) (N := 9) hx hb hts hin_X0 hown hK hP 0 rfl rfl 3 (by decide) hf_PressedPlains_Book_21 (fun _ h9 => h9) rfl dX0_pressFrom_37 ?_
          refine lv_iload_n hx hb dX0_pressFrom_40 rfl (lv_at hl 1 rfl) ?_
          refine pq_iald hx hb hK hP 4 0 rfl rfl e (by omega) (by decide) dX0_pressFrom_41 ?_
          refine lv_iload hx hb dX0_pressFrom_42 (lv_at hl 4 rfl) ?_
          refine lv_icmp_ge (tgt := 51) hx hb dX0_pressFrom_44 (by decide) (fun c_13 => ?_) (fun c_13 => ?_)
          · refine lv_iconst (v := 0) hx hb dX0_pressFrom_51 (by decide) ?_
            exact J _ (by rw [if_neg (show ¬ (bWi fi la e a b ∧ ¬ c0 ≤ B_1.2.1 e) from fun h => h.2 c_13)]) H locs ls hP hD hS hl
          · refine lv_iconst (v := 1) hx hb dX0_pressFrom_47 (by decide) ?_
            refine lv_goto (tgt := 52) hx hb dX0_pressFrom_48 (by decide) ?_
            exact J _ (by rw [if_pos (show bWi fi la e a b ∧ ¬ c0 ≤ B_1.2.1 e from ⟨b_12, c_13⟩)]) H locs ls hP hD hS hl
        · rw [if_neg b_12]
          refine W.eq (g2 := F0 m 33 ls [.int 0]) rfl ?_
          refine lv_if_eq (tgt := 51) hx hb dX0_pressFrom_33 (by decide) (fun _ => ?_) (fun c9 => absurd c9 (by decide))
          refine lv_iconst (v := 0) hx hb dX0_pressFrom_51 (by decide) ?_
          exact J _ (by rw [if_neg (show ¬ (bWi fi la e a b ∧ ¬ c0 ≤ B_1.2.1 e) from fun h => b_12 h.1)]) H locs ls hP hD hS hl
      · exact pq_vret hQ hx hb hr hlocks hK hS hP hD dX0_pressFrom_25 (by omega) (by omega) (⟨rfl, by subst hB_1; rw [bPressFrom, if_pos (Or.inr c_3)] <;> rfl⟩)

set_option maxHeartbeats 4000000 in
set_option maxRecDepth 100000 in
theorem mX0_raiseFrom (l : Launch) (D : va_G) (cI : ClassId) (h a0 a1 a2 a3 a4 a5 : Nat) (fi la : Nat → Int32) (x v0 : Int32) : ∀ (d : Nat) (B : BK) (e : Nat), e < 128 → 128 ≤ e * 2 ^ d → pq_M l yX0_raiseFrom wsX0_raiseFrom (d + 3) (64 + d * 24) 0 0 D [(cI, .int)] pq_0 (bkW h a0 a1 a2 a3 a4 a5 cI fi la B) [.ref h, .int (nI e), .int x, .int v0] (fun v w1 => v = none ∧ w1 = bkW h a0 a1 a2 a3 a4 a5 cI fi la (bRaiseFrom fi la x v0 d B e)) := by
  intro d
  induction d with
  | zero =>
    intro B e he hd
    simp only [Nat.pow_zero, Nat.mul_one] at hd
    omega
  | succ d ih =>
    intro B e he hd
    refine pq_enter (cc := cX0_raiseFrom) (maxL := 5) (ret := none) (by decide) rfl (Nat.le_of_ble_eq_true rfl) ?_
    intro p ev s m args below meth cd A ls Q H locs hx hb hr hml hts hown hlocks hnm hK hP hD hS hA hE hl hQ
    have hl : lv_has ls 5 [(0, .ref h), (1, .int (nI e)), (2, .int x), (3, .int v0)] := hl
    have hP : va_P D vwCl [(h, .inr (0, [.ref a0, .ref a1, .ref a2, .ref a3, .ref a4, .ref a5, .int B.2.2.2.2.1, .int B.2.2.2.2.2.1, .int B.2.2.2.2.2.2])), (a0, .inl (cI, 128, .inl fi)), (a1, .inl (cI, 128, .inl la)), (a2, .inl (cI, 128, .inl B.1)), (a3, .inl (cI, 128, .inl B.2.1)), (a4, .inl (cI, 128, .inl B.2.2.1)), (a5, .inl (cI, 128, .inl B.2.2.2.1))] H := hP
    have hD : va_D A [(h, .inr (0, [.ref a0, .ref a1, .ref a2, .ref a3, .ref a4, .ref a5, .int B.2.2.2.2.1, .int B.2.2.2.2.2.1, .int B.2.2.2.2.2.2])), (a0, .inl (cI, 128, .inl fi)), (a1, .inl (cI, 128, .inl la)), (a2, .inl (cI, 128, .inl B.1)), (a3, .inl (cI, 128, .inl B.2.1)), (a4, .inl (cI, 128, .inl B.2.2.1)), (a5, .inl (cI, 128, .inl B.2.2.2.1))] := hD
    have hin_X0 : ∀ w ∈ wsX00, w ∈ wsX0_raiseFrom := by decide +kernel
    have hf_PressedPlains_Book_15 := hts (.fieldLink RX0 15 "PressedPlains$Book" "last" "[I") (by decide +kernel)
    have hf_PressedPlains_Book_18 := hts (.fieldLink RX0 18 "PressedPlains$Book" "greatest" "[I") (by decide +kernel)
    have hf_PressedPlains_Book_27 := hts (.fieldLink RX0 27 "PressedPlains$Book" "sum" "[I") (by decide +kernel)
    refine lv_aload_n hx hb dX0_raiseFrom_0 rfl (lv_at hl 0 rfl) ?_
    refine pq_callV (wr := []) (own := RX0) (nL := 5) (q0 := 0) (ci := 0) [0, 1, 2, 3, 4, 5, 6] [] [] (mX0_countVisit l D cI h a0 a1 a2 a3 a4 a5 fi la B ) ⟨hx, hb, hml, hown, hts⟩ (cwV 0 hts gX0_raiseFrom_X0_countVisit rfl rfl rfl (by decide +kernel) ⟨by dsimp only [pq_R]; omega, by dsimp only [pq_R]; omega⟩) pq_bl0 (fun _ _ _ => trivial) hK hP hD hS hA rfl (by decide) rfl (by decide) (by decide) rfl rfl rfl rfl hl.1 rfl (Nat.le_of_ble_eq_true rfl) dX0_raiseFrom_1 ⟨by dsimp only [pq_R]; omega, by dsimp only [pq_R]; omega⟩ (fun v w1 H locs hq hP hD hS hz => ?_)
    obtain ⟨rfl, rfl⟩ := hq
    obtain ⟨B_1, hB_1⟩ : ∃ zz, zz = bVisit B := ⟨_, rfl⟩
    rw [← hB_1] at hP hD
    have hP : va_P D vwCl [(h, .inr (0, [.ref a0, .ref a1, .ref a2, .ref a3, .ref a4, .ref a5, .int B_1.2.2.2.2.1, .int B_1.2.2.2.2.2.1, .int B_1.2.2.2.2.2.2])), (a0, .inl (cI, 128, .inl fi)), (a1, .inl (cI, 128, .inl la)), (a2, .inl (cI, 128, .inl B_1.1)), (a3, .inl (cI, 128, .inl B_1.2.1)), (a4, .inl (cI, 128, .inl B_1.2.2.1)), (a5, .inl (cI, 128, .inl B_1.2.2.2.1))] H := hP
    have hD : va_D A [(h, .inr (0, [.ref a0, .ref a1, .ref a2, .ref a3, .ref a4, .ref a5, .int B_1.2.2.2.2.1, .int B_1.2.2.2.2.2.1, .int B_1.2.2.2.2.2.2])), (a0, .inl (cI, 128, .inl fi)), (a1, .inl (cI, 128, .inl la)), (a2, .inl (cI, 128, .inl B_1.1)), (a3, .inl (cI, 128, .inl B_1.2.1)), (a4, .inl (cI, 128, .inl B_1.2.2.1)), (a5, .inl (cI, 128, .inl B_1.2.2.2.1))] := hD
    refine W.eq (g2 := F0 m 4 ls []) rfl ?_
    refine lv_aload_n hx hb dX0_raiseFrom_4 rfl (lv_at hl 0 rfl) ?_
    refine lv_iload_n hx hb dX0_raiseFrom_5 rfl (lv_at hl 1 rfl) ?_
    refine pq_callV (wr := []) (own := RX0) (nL := 5) (q0 := 0) (ci := 0) [0, 1, 2, 3, 4, 5, 6] [] [.int (nI e)] (mX0_hasParts l D cI h a0 a1 a2 a3 a4 a5 fi la B_1 e (by omega)) ⟨hx, hb, hml, hown, hts⟩ (cwV 1 hts gX0_raiseFrom_X0_hasParts rfl rfl rfl (by decide +kernel) ⟨by dsimp only [pq_R]; omega, by dsimp only [pq_R]; omega⟩) pq_bl0 (fun _ _ _ => trivial) hK hP hD hS hA rfl (by decide) rfl (by decide) (by decide) rfl rfl rfl rfl hl.1 rfl (Nat.le_of_ble_eq_true rfl) dX0_raiseFrom_6 ⟨by dsimp only [pq_R]; omega, by dsimp only [pq_R]; omega⟩ (fun v w1 H locs hq hP hD hS hz => ?_)
    obtain ⟨rfl, rfl⟩ := hq
    have hP : va_P D vwCl [(h, .inr (0, [.ref a0, .ref a1, .ref a2, .ref a3, .ref a4, .ref a5, .int B_1.2.2.2.2.1, .int B_1.2.2.2.2.2.1, .int B_1.2.2.2.2.2.2])), (a0, .inl (cI, 128, .inl fi)), (a1, .inl (cI, 128, .inl la)), (a2, .inl (cI, 128, .inl B_1.1)), (a3, .inl (cI, 128, .inl B_1.2.1)), (a4, .inl (cI, 128, .inl B_1.2.2.1)), (a5, .inl (cI, 128, .inl B_1.2.2.2.1))] H := hP
    have hD : va_D A [(h, .inr (0, [.ref a0, .ref a1, .ref a2, .ref a3, .ref a4, .ref a5, .int B_1.2.2.2.2.1, .int B_1.2.2.2.2.2.1, .int B_1.2.2.2.2.2.2])), (a0, .inl (cI, 128, .inl fi)), (a1, .inl (cI, 128, .inl la)), (a2, .inl (cI, 128, .inl B_1.1)), (a3, .inl (cI, 128, .inl B_1.2.1)), (a4, .inl (cI, 128, .inl B_1.2.2.1)), (a5, .inl (cI, 128, .inl B_1.2.2.2.1))] := hD
    by_cases b_2 : bHp fi la e
    · have he64 : e < 64 := bHp_lt (by omega) b_2
      rw [if_pos b_2]
      refine W.eq (g2 := F0 m 9 ls [.int 1]) rfl ?_
      refine lv_if_ne (tgt := 27) hx hb dX0_raiseFrom_9 (by decide) (fun _ => ?_) (fun c9 => absurd c9 (by decide))
      refine lv_aload_n hx hb dX0_raiseFrom_27 rfl (lv_at hl 0 rfl) ?_
      refine lv_iload_n hx hb dX0_raiseFrom_28 rfl (lv_at hl 1 rfl) ?_
      refine pq_callV (wr := []) (own := RX0) (nL := 5) (q0 := 0) (ci := 0) [0, 1, 2, 3, 4, 5, 6] [] [.int (nI e)] (mX0_catchUpBelow l D cI h a0 a1 a2 a3 a4 a5 fi la B_1 e (by omega)) ⟨hx, hb, hml, hown, hts⟩ (cwV 1 hts gX0_raiseFrom_X0_catchUpBelow rfl rfl rfl (by decide +kernel) ⟨by dsimp only [pq_R]; omega, by dsimp only [pq_R]; omega⟩) pq_bl0 (fun _ _ _ => trivial) hK hP hD hS hA rfl (by decide) rfl (by decide) (by decide) rfl rfl rfl rfl hl.1 rfl (Nat.le_of_ble_eq_true rfl) dX0_raiseFrom_29 ⟨by dsimp only [pq_R]; omega, by dsimp only [pq_R]; omega⟩ (fun v w1 H locs hq hP hD hS hz => ?_)
      obtain ⟨rfl, rfl⟩ := hq
      obtain ⟨B_3, hB_3⟩ : ∃ zz, zz = bCatch2 B_1 e := ⟨_, rfl⟩
      rw [← hB_3] at hP hD
      have hP : va_P D vwCl [(h, .inr (0, [.ref a0, .ref a1, .ref a2, .ref a3, .ref a4, .ref a5, .int B_3.2.2.2.2.1, .int B_3.2.2.2.2.2.1, .int B_3.2.2.2.2.2.2])), (a0, .inl (cI, 128, .inl fi)), (a1, .inl (cI, 128, .inl la)), (a2, .inl (cI, 128, .inl B_3.1)), (a3, .inl (cI, 128, .inl B_3.2.1)), (a4, .inl (cI, 128, .inl B_3.2.2.1)), (a5, .inl (cI, 128, .inl B_3.2.2.2.1))] H := hP
      have hD : va_D A [(h, .inr (0, [.ref a0, .ref a1, .ref a2, .ref a3, .ref a4, .ref a5, .int B_3.2.2.2.2.1, .int B_3.2.2.2.2.2.1, .int B_3.2.2.2.2.2.2])), (a0, .inl (cI, 128, .inl fi)), (a1, .inl (cI, 128, .inl la)), (a2, .inl (cI, 128, .inl B_3.1)), (a3, .inl (cI, 128, .inl B_3.2.1)), (a4, .inl (cI, 128, .inl B_3.2.2.1)), (a5, .inl (cI, 128, .inl B_3.2.2.2.1))] := hD
      refine W.eq (g2 := F0 m 32 ls []) rfl ?_
      by_cases q_4 : x ≤ la (2 * e)
      · refine lv_iload_n hx hb dX0_raiseFrom_32 rfl (lv_at hl 2 rfl) ?_
        refine lv_aload_n hx hb dX0_raiseFrom_33 rfl (lv_at hl 0 rfl) ?_
        refine va_get (D := D) (ci := 0) (v := .ref a1) (C := RX0) (T := TX0) (N := 9) hx hb hts hin_X0 hown hK hP 0 rfl rfl 1 (by decide) hf_PressedPlains_Book_15 (fun _ h9 => h9) rfl dX0_raiseFrom_34 ?_
        refine lv_iconst (v := 2) hx hb dX0_raiseFrom_37 (by decide) ?_
        refine lv_iload_n hx hb dX0_raiseFrom_38 rfl (lv_at hl 1 rfl) ?_
        refine lv_imul hx hb dX0_raiseFrom_39 ?_
        refine pq_top (nI (2 * e)) (pk_mul 2 _) ?_
        refine pq_iald hx hb hK hP 2 0 rfl rfl (2 * e) (by omega) (by decide) dX0_raiseFrom_40 ?_
        refine lv_icmp_gt (tgt := 48) hx hb dX0_raiseFrom_41 (by decide) (fun c9 => absurd c9 (i_nlt q_4)) (fun _ => ?_)
        refine lv_iconst (v := 1) hx hb dX0_raiseFrom_44 (by decide) ?_
        refine lv_goto (tgt := 49) hx hb dX0_raiseFrom_45 (by decide) ?_
        refine lv_istore (lv' := [(4, .int 1), (0, .ref h), (1, .int (nI e)), (2, .int x), (3, .int v0)]) hx hb dX0_raiseFrom_49 hl (by decide) rfl (fun ls hl => ?_)
        refine lv_aload_n hx hb dX0_raiseFrom_51 rfl (lv_at hl 1 rfl) ?_
        refine lv_iload hx hb dX0_raiseFrom_52 (lv_at hl 0 rfl) ?_
        refine lv_if_eq (tgt := 63) hx hb dX0_raiseFrom_54 (by decide) (fun c9 => absurd c9 (by decide)) (fun _ => ?_)
        refine lv_iconst (v := 2) hx hb dX0_raiseFrom_57 (by decide) ?_
        refine lv_iload_n hx hb dX0_raiseFrom_58 rfl (lv_at hl 2 rfl) ?_
        refine lv_imul hx hb dX0_raiseFrom_59 ?_
        refine pq_top (nI (2 * e)) (pk_mul 2 _) ?_
        refine lv_goto (tgt := 68) hx hb dX0_raiseFrom_60 (by decide) ?_
        refine lv_iload_n hx hb dX0_raiseFrom_68 rfl (lv_at hl 3 rfl) ?_
        refine lv_iload_n hx hb dX0_raiseFrom_69 rfl (lv_at hl 4 rfl) ?_
        refine pq_callV (wr := []) (own := RX0) (nL := 5) (q0 := 0) (ci := 0) [0, 1, 2, 3, 4, 5, 6] [] [.int (nI (2 * e)), .int x, .int v0] (ih B_3 (2 * e) (by omega) (pw_1 hd)) ⟨hx, hb, hml, hown, hts⟩ (cwV 3 hts gX0_raiseFrom_X0_raiseFrom rfl rfl rfl (by decide +kernel) ⟨by dsimp only [pq_R]; omega, by dsimp only [pq_R]; omega⟩) pq_bl0 (fun _ _ _ => trivial) hK hP hD hS hA rfl (by decide) rfl (by decide) (by decide) rfl rfl rfl rfl hl.1 rfl (Nat.le_of_ble_eq_true rfl) dX0_raiseFrom_70 ⟨by dsimp only [pq_R]; omega, by dsimp only [pq_R]; omega⟩ (fun v w1 H locs hq hP hD hS hz => ?_)
        obtain ⟨rfl, rfl⟩ := hq
        obtain ⟨B_5, hB_5⟩ : ∃ zz, zz = bRaiseFrom fi la x v0 d B_3 (2 * e) := ⟨_, rfl⟩
        rw [← hB_5] at hP hD
        have hP : va_P D vwCl [(h, .inr (0, [.ref a0, .ref a1, .ref a2, .ref a3, .ref a4, .ref a5, .int B_5.2.2.2.2.1, .int B_5.2.2.2.2.2.1, .int B_5.2.2.2.2.2.2])), (a0, .inl (cI, 128, .inl fi)), (a1, .inl (cI, 128, .inl la)), (a2, .inl (cI, 128, .inl B_5.1)), (a3, .inl (cI, 128, .inl B_5.2.1)), (a4, .inl (cI, 128, .inl B_5.2.2.1)), (a5, .inl (cI, 128, .inl B_5.2.2.2.1))] H := hP
        have hD : va_D A [(h, .inr (0, [.ref a0, .ref a1, .ref a2, .ref a3, .ref a4, .ref a5, .int B_5.2.2.2.2.1, .int B_5.2.2.2.2.2.1, .int B_5.2.2.2.2.2.2])), (a0, .inl (cI, 128, .inl fi)), (a1, .inl (cI, 128, .inl la)), (a2, .inl (cI, 128, .inl B_5.1)), (a3, .inl (cI, 128, .inl B_5.2.1)), (a4, .inl (cI, 128, .inl B_5.2.2.1)), (a5, .inl (cI, 128, .inl B_5.2.2.2.1))] := hD
        refine W.eq (g2 := F0 m 73 ls []) rfl ?_
        refine lv_aload_n hx hb dX0_raiseFrom_73 rfl (lv_at hl 1 rfl) ?_
        refine lv_iload_n hx hb dX0_raiseFrom_74 rfl (lv_at hl 2 rfl) ?_
        refine pq_callV (wr := []) (own := RX0) (nL := 5) (q0 := 0) (ci := 0) [0, 1, 2, 3, 4, 5, 6] [] [.int (nI e)] (mX0_tellAnew l D cI h a0 a1 a2 a3 a4 a5 fi la B_5 e (by omega)) ⟨hx, hb, hml, hown, hts⟩ (cwV 1 hts gX0_raiseFrom_X0_tellAnew rfl rfl rfl (by decide +kernel) ⟨by dsimp only [pq_R]; omega, by dsimp only [pq_R]; omega⟩) pq_bl0 (fun _ _ _ => trivial) hK hP hD hS hA rfl (by decide) rfl (by decide) (by decide) rfl rfl rfl rfl hl.1 rfl (Nat.le_of_ble_eq_true rfl) dX0_raiseFrom_75 ⟨by dsimp only [pq_R]; omega, by dsimp only [pq_R]; omega⟩ (fun v w1 H locs hq hP hD hS hz => ?_)
        obtain ⟨rfl, rfl⟩ := hq
        obtain ⟨B_6, hB_6⟩ : ∃ zz, zz = bTell B_5 e := ⟨_, rfl⟩
        rw [← hB_6] at hP hD
        have hP : va_P D vwCl [(h, .inr (0, [.ref a0, .ref a1, .ref a2, .ref a3, .ref a4, .ref a5, .int B_6.2.2.2.2.1, .int B_6.2.2.2.2.2.1, .int B_6.2.2.2.2.2.2])), (a0, .inl (cI, 128, .inl fi)), (a1, .inl (cI, 128, .inl la)), (a2, .inl (cI, 128, .inl B_6.1)), (a3, .inl (cI, 128, .inl B_6.2.1)), (a4, .inl (cI, 128, .inl B_6.2.2.1)), (a5, .inl (cI, 128, .inl B_6.2.2.2.1))] H := hP
        have hD : va_D A [(h, .inr (0, [.ref a0, .ref a1, .ref a2, .ref a3, .ref a4, .ref a5, .int B_6.2.2.2.2.1, .int B_6.2.2.2.2.2.1, .int B_6.2.2.2.2.2.2])), (a0, .inl (cI, 128, .inl fi)), (a1, .inl (cI, 128, .inl la)), (a2, .inl (cI, 128, .inl B_6.1)), (a3, .inl (cI, 128, .inl B_6.2.1)), (a4, .inl (cI, 128, .inl B_6.2.2.1)), (a5, .inl (cI, 128, .inl B_6.2.2.2.1))] := hD
        refine W.eq (g2 := F0 m 78 ls []) rfl ?_
        exact pq_vret hQ hx hb hr hlocks hK hS hP hD dX0_raiseFrom_78 (by omega) (by omega) (⟨rfl, by subst hB_6; subst hB_5; subst hB_3; subst hB_1; rw [bRaiseFrom, if_pos b_2, bKid, if_pos q_4] <;> rfl⟩)
      · refine lv_iload_n hx hb dX0_raiseFrom_32 rfl (lv_at hl 2 rfl) ?_
        refine lv_aload_n hx hb dX0_raiseFrom_33 rfl (lv_at hl 0 rfl) ?_
        refine va_get (D := D) (ci := 0) (v := .ref a1) (C := RX0) (T := TX0) (N := 9) hx hb hts hin_X0 hown hK hP 0 rfl rfl 1 (by decide) hf_PressedPlains_Book_15 (fun _ h9 => h9) rfl dX0_raiseFrom_34 ?_
        refine lv_iconst (v := 2) hx hb dX0_raiseFrom_37 (by decide) ?_
        refine lv_iload_n hx hb dX0_raiseFrom_38 rfl (lv_at hl 1 rfl) ?_
        refine lv_imul hx hb dX0_raiseFrom_39 ?_
        refine pq_top (nI (2 * e)) (pk_mul 2 _) ?_
        refine pq_iald hx hb hK hP 2 0 rfl rfl (2 * e) (by omega) (by decide) dX0_raiseFrom_40 ?_
        refine lv_icmp_gt (tgt := 48) hx hb dX0_raiseFrom_41 (by decide) (fun _ => ?_) (fun c9 => absurd (i_lt q_4) c9)
        refine lv_iconst (v := 0) hx hb dX0_raiseFrom_48 (by decide) ?_
        refine lv_istore (lv' := [(4, .int 0), (0, .ref h), (1, .int (nI e)), (2, .int x), (3, .int v0)]) hx hb dX0_raiseFrom_49 hl (by decide) rfl (fun ls hl => ?_)
        refine lv_aload_n hx hb dX0_raiseFrom_51 rfl (lv_at hl 1 rfl) ?_
        refine lv_iload hx hb dX0_raiseFrom_52 (lv_at hl 0 rfl) ?_
        refine lv_if_eq (tgt := 63) hx hb dX0_raiseFrom_54 (by decide) (fun _ => ?_) (fun c9 => absurd c9 (by decide))
        refine lv_iconst (v := 2) hx hb dX0_raiseFrom_63 (by decide) ?_
        refine lv_iload_n hx hb dX0_raiseFrom_64 rfl (lv_at hl 2 rfl) ?_
        refine lv_imul hx hb dX0_raiseFrom_65 ?_
        refine pq_top (nI (2 * e)) (pk_mul 2 _) ?_
        refine lv_iconst (v := 1) hx hb dX0_raiseFrom_66 (by decide) ?_
        refine lv_iadd hx hb dX0_raiseFrom_67 ?_
        refine pq_top (nI ((2 * e) + 1)) (nI_1 _) ?_
        refine lv_iload_n hx hb dX0_raiseFrom_68 rfl (lv_at hl 3 rfl) ?_
        refine lv_iload_n hx hb dX0_raiseFrom_69 rfl (lv_at hl 4 rfl) ?_
        refine pq_callV (wr := []) (own := RX0) (nL := 5) (q0 := 0) (ci := 0) [0, 1, 2, 3, 4, 5, 6] [] [.int (nI ((2 * e) + 1)), .int x, .int v0] (ih B_3 ((2 * e) + 1) (by omega) (pw_2 hd)) ⟨hx, hb, hml, hown, hts⟩ (cwV 3 hts gX0_raiseFrom_X0_raiseFrom rfl rfl rfl (by decide +kernel) ⟨by dsimp only [pq_R]; omega, by dsimp only [pq_R]; omega⟩) pq_bl0 (fun _ _ _ => trivial) hK hP hD hS hA rfl (by decide) rfl (by decide) (by decide) rfl rfl rfl rfl hl.1 rfl (Nat.le_of_ble_eq_true rfl) dX0_raiseFrom_70 ⟨by dsimp only [pq_R]; omega, by dsimp only [pq_R]; omega⟩ (fun v w1 H locs hq hP hD hS hz => ?_)
        obtain ⟨rfl, rfl⟩ := hq
        obtain ⟨B_7, hB_7⟩ : ∃ zz, zz = bRaiseFrom fi la x v0 d B_3 ((2 * e) + 1) := ⟨_, rfl⟩
        rw [← hB_7] at hP hD
        have hP : va_P D vwCl [(h, .inr (0, [.ref a0, .ref a1, .ref a2, .ref a3, .ref a4, .ref a5, .int B_7.2.2.2.2.1, .int B_7.2.2.2.2.2.1, .int B_7.2.2.2.2.2.2])), (a0, .inl (cI, 128, .inl fi)), (a1, .inl (cI, 128, .inl la)), (a2, .inl (cI, 128, .inl B_7.1)), (a3, .inl (cI, 128, .inl B_7.2.1)), (a4, .inl (cI, 128, .inl B_7.2.2.1)), (a5, .inl (cI, 128, .inl B_7.2.2.2.1))] H := hP
        have hD : va_D A [(h, .inr (0, [.ref a0, .ref a1, .ref a2, .ref a3, .ref a4, .ref a5, .int B_7.2.2.2.2.1, .int B_7.2.2.2.2.2.1, .int B_7.2.2.2.2.2.2])), (a0, .inl (cI, 128, .inl fi)), (a1, .inl (cI, 128, .inl la)), (a2, .inl (cI, 128, .inl B_7.1)), (a3, .inl (cI, 128, .inl B_7.2.1)), (a4, .inl (cI, 128, .inl B_7.2.2.1)), (a5, .inl (cI, 128, .inl B_7.2.2.2.1))] := hD
        refine W.eq (g2 := F0 m 73 ls []) rfl ?_
        refine lv_aload_n hx hb dX0_raiseFrom_73 rfl (lv_at hl 1 rfl) ?_
        refine lv_iload_n hx hb dX0_raiseFrom_74 rfl (lv_at hl 2 rfl) ?_
        refine pq_callV (wr := []) (own := RX0) (nL := 5) (q0 := 0) (ci := 0) [0, 1, 2, 3, 4, 5, 6] [] [.int (nI e)] (mX0_tellAnew l D cI h a0 a1 a2 a3 a4 a5 fi la B_7 e (by omega)) ⟨hx, hb, hml, hown, hts⟩ (cwV 1 hts gX0_raiseFrom_X0_tellAnew rfl rfl rfl (by decide +kernel) ⟨by dsimp only [pq_R]; omega, by dsimp only [pq_R]; omega⟩) pq_bl0 (fun _ _ _ => trivial) hK hP hD hS hA rfl (by decide) rfl (by decide) (by decide) rfl rfl rfl rfl hl.1 rfl (Nat.le_of_ble_eq_true rfl) dX0_raiseFrom_75 ⟨by dsimp only [pq_R]; omega, by dsimp only [pq_R]; omega⟩ (fun v w1 H locs hq hP hD hS hz => ?_)
        obtain ⟨rfl, rfl⟩ := hq
        obtain ⟨B_8, hB_8⟩ : ∃ zz, zz = bTell B_7 e := ⟨_, rfl⟩
        rw [← hB_8] at hP hD
        have hP : va_P D vwCl [(h, .inr (0, [.ref a0, .ref a1, .ref a2, .ref a3, .ref a4, .ref a5, .int B_8.2.2.2.2.1, .int B_8.2.2.2.2.2.1, .int B_8.2.2.2.2.2.2])), (a0, .inl (cI, 128, .inl fi)), (a1, .inl (cI, 128, .inl la)), (a2, .inl (cI, 128, .inl B_8.1)), (a3, .inl (cI, 128, .inl B_8.2.1)), (a4, .inl (cI, 128, .inl B_8.2.2.1)), (a5, .inl (cI, 128, .inl B_8.2.2.2.1))] H := hP
        have hD : va_D A [(h, .inr (0, [.ref a0, .ref a1, .ref a2, .ref a3, .ref a4, .ref a5, .int B_8.2.2.2.2.1, .int B_8.2.2.2.2.2.1, .int B_8.2.2.2.2.2.2])), (a0, .inl (cI, 128, .inl fi)), (a1, .inl (cI, 128, .inl la)), (a2, .inl (cI, 128, .inl B_8.1)), (a3, .inl (cI, 128, .inl B_8.2.1)), (a4, .inl (cI, 128, .inl B_8.2.2.1)), (a5, .inl (cI, 128, .inl B_8.2.2.2.1))] := hD
        refine W.eq (g2 := F0 m 78 ls []) rfl ?_
        exact pq_vret hQ hx hb hr hlocks hK hS hP hD dX0_raiseFrom_78 (by omega) (by omega) (⟨rfl, by subst hB_8; subst hB_7; subst hB_3; subst hB_1; rw [bRaiseFrom, if_pos b_2, bKid, if_neg q_4] <;> rfl⟩)
    · rw [if_neg b_2]
      refine W.eq (g2 := F0 m 9 ls [.int 0]) rfl ?_
      refine lv_if_ne (tgt := 27) hx hb dX0_raiseFrom_9 (by decide) (fun c9 => absurd c9 (by decide)) (fun _ => ?_)
      refine lv_aload_n hx hb dX0_raiseFrom_12 rfl (lv_at hl 0 rfl) ?_
      refine va_get (D := D) (ci := 0) (v := .ref a2) (C := RX0) (T := TX0) (N := 9) hx hb hts hin_X0 hown hK hP 0 rfl rfl 2 (by decide) hf_PressedPlains_Book_18 (fun _ h9 => h9) rfl dX0_raiseFrom_13 ?_
      refine lv_iload_n hx hb dX0_raiseFrom_16 rfl (lv_at hl 1 rfl) ?_
      refine lv_iload_n hx hb dX0_raiseFrom_17 rfl (lv_at hl 3 rfl) ?_
      refine pq_iast hx hb hK hP hD hS 3 0 rfl rfl e (by omega) (by decide) dX0_raiseFrom_18 (fun H locs hP hD hS => ?_)
      have hP : va_P D vwCl [(h, .inr (0, [.ref a0, .ref a1, .ref a2, .ref a3, .ref a4, .ref a5, .int B_1.2.2.2.2.1, .int B_1.2.2.2.2.2.1, .int B_1.2.2.2.2.2.2])), (a0, .inl (cI, 128, .inl fi)), (a1, .inl (cI, 128, .inl la)), (a2, .inl (cI, 128, .inl (upd B_1.1 e v0))), (a3, .inl (cI, 128, .inl B_1.2.1)), (a4, .inl (cI, 128, .inl B_1.2.2.1)), (a5, .inl (cI, 128, .inl B_1.2.2.2.1))] H := hP
      have hD : va_D A [(h, .inr (0, [.ref a0, .ref a1, .ref a2, .ref a3, .ref a4, .ref a5, .int B_1.2.2.2.2.1, .int B_1.2.2.2.2.2.1, .int B_1.2.2.2.2.2.2])), (a0, .inl (cI, 128, .inl fi)), (a1, .inl (cI, 128, .inl la)), (a2, .inl (cI, 128, .inl (upd B_1.1 e v0))), (a3, .inl (cI, 128, .inl B_1.2.1)), (a4, .inl (cI, 128, .inl B_1.2.2.1)), (a5, .inl (cI, 128, .inl B_1.2.2.2.1))] := hD
      refine lv_aload_n hx hb dX0_raiseFrom_19 rfl (lv_at hl 0 rfl) ?_
      refine va_get (D := D) (ci := 0) (v := .ref a5) (C := RX0) (T := TX0) (N := 9) hx hb hts hin_X0 hown hK hP 0 rfl rfl 5 (by decide) hf_PressedPlains_Book_27 (fun _ h9 => h9) rfl dX0_raiseFrom_20 ?_
      refine lv_iload_n hx hb dX0_raiseFrom_23 rfl (lv_at hl 1 rfl) ?_
      refine lv_iload_n hx hb dX0_raiseFrom_24 rfl (lv_at hl 3 rfl) ?_
      refine pq_iast hx hb hK hP hD hS 6 0 rfl rfl e (by omega) (by decide) dX0_raiseFrom_25 (fun H locs hP hD hS => ?_)
      have hP : va_P D vwCl [(h, .inr (0, [.ref a0, .ref a1, .ref a2, .ref a3, .ref a4, .ref a5, .int B_1.2.2.2.2.1, .int B_1.2.2.2.2.2.1, .int B_1.2.2.2.2.2.2])), (a0, .inl (cI, 128, .inl fi)), (a1, .inl (cI, 128, .inl la)), (a2, .inl (cI, 128, .inl (upd B_1.1 e v0))), (a3, .inl (cI, 128, .inl B_1.2.1)), (a4, .inl (cI, 128, .inl B_1.2.2.1)), (a5, .inl (cI, 128, .inl (upd B_1.2.2.2.1 e v0)))] H := hP
      have hD : va_D A [(h, .inr (0, [.ref a0, .ref a1, .ref a2, .ref a3, .ref a4, .ref a5, .int B_1.2.2.2.2.1, .int B_1.2.2.2.2.2.1, .int B_1.2.2.2.2.2.2])), (a0, .inl (cI, 128, .inl fi)), (a1, .inl (cI, 128, .inl la)), (a2, .inl (cI, 128, .inl (upd B_1.1 e v0))), (a3, .inl (cI, 128, .inl B_1.2.1)), (a4, .inl (cI, 128, .inl B_1.2.2.1)), (a5, .inl (cI, 128, .inl (upd B_1.2.2.2.1 e v0)))] := hD
      exact pq_vret hQ hx hb hr hlocks hK hS hP hD dX0_raiseFrom_26 (by omega) (by omega) (⟨rfl, by subst hB_1; rw [bRaiseFrom, if_neg b_2] <;> rfl⟩)

set_option maxHeartbeats 4000000 in
set_option maxRecDepth 100000 in
theorem mX0_sumFrom (l : Launch) (D : va_G) (cI : ClassId) (h a0 a1 a2 a3 a4 a5 : Nat) (fi la : Nat → Int32) (a b : Int32) : ∀ (d : Nat) (B : BK) (e : Nat), e < 128 → 128 ≤ e * 2 ^ d → pq_M l yX0_sumFrom wsX0_sumFrom (d + 3) (64 + d * 23) 0 0 D [(cI, .int)] pq_0 (bkW h a0 a1 a2 a3 a4 a5 cI fi la B) [.ref h, .int (nI e), .int a, .int b] (fun v w1 => v = some (.int (bSumFrom fi la a b d B e).1) ∧ w1 = bkW h a0 a1 a2 a3 a4 a5 cI fi la (bSumFrom fi la a b d B e).2) := by
  intro d
  induction d with
  | zero =>
    intro B e he hd
    simp only [Nat.pow_zero, Nat.mul_one] at hd
    omega
  | succ d ih =>
    intro B e he hd
    refine pq_enter (cc := cX0_sumFrom) (maxL := 4) (ret := (some .int)) (by decide) rfl (Nat.le_of_ble_eq_true rfl) ?_
    intro p ev s m args below meth cd A ls Q H locs hx hb hr hml hts hown hlocks hnm hK hP hD hS hA hE hl hQ
    have hl : lv_has ls 4 [(0, .ref h), (1, .int (nI e)), (2, .int a), (3, .int b)] := hl
    have hP : va_P D vwCl [(h, .inr (0, [.ref a0, .ref a1, .ref a2, .ref a3, .ref a4, .ref a5, .int B.2.2.2.2.1, .int B.2.2.2.2.2.1, .int B.2.2.2.2.2.2])), (a0, .inl (cI, 128, .inl fi)), (a1, .inl (cI, 128, .inl la)), (a2, .inl (cI, 128, .inl B.1)), (a3, .inl (cI, 128, .inl B.2.1)), (a4, .inl (cI, 128, .inl B.2.2.1)), (a5, .inl (cI, 128, .inl B.2.2.2.1))] H := hP
    have hD : va_D A [(h, .inr (0, [.ref a0, .ref a1, .ref a2, .ref a3, .ref a4, .ref a5, .int B.2.2.2.2.1, .int B.2.2.2.2.2.1, .int B.2.2.2.2.2.2])), (a0, .inl (cI, 128, .inl fi)), (a1, .inl (cI, 128, .inl la)), (a2, .inl (cI, 128, .inl B.1)), (a3, .inl (cI, 128, .inl B.2.1)), (a4, .inl (cI, 128, .inl B.2.2.1)), (a5, .inl (cI, 128, .inl B.2.2.2.1))] := hD
    have hin_X0 : ∀ w ∈ wsX00, w ∈ wsX0_sumFrom := by decide +kernel
    have hf_PressedPlains_Book_27 := hts (.fieldLink RX0 27 "PressedPlains$Book" "sum" "[I") (by decide +kernel)
    refine lv_aload_n hx hb dX0_sumFrom_0 rfl (lv_at hl 0 rfl) ?_
    refine pq_callV (wr := []) (own := RX0) (nL := 4) (q0 := 0) (ci := 0) [0, 1, 2, 3, 4, 5, 6] [] [] (mX0_countVisit l D cI h a0 a1 a2 a3 a4 a5 fi la B ) ⟨hx, hb, hml, hown, hts⟩ (cwV 0 hts gX0_sumFrom_X0_countVisit rfl rfl rfl (by decide +kernel) ⟨by dsimp only [pq_R]; omega, by dsimp only [pq_R]; omega⟩) pq_bl0 (fun _ _ _ => trivial) hK hP hD hS hA rfl (by decide) rfl (by decide) (by decide) rfl rfl rfl rfl hl.1 rfl (Nat.le_of_ble_eq_true rfl) dX0_sumFrom_1 ⟨by dsimp only [pq_R]; omega, by dsimp only [pq_R]; omega⟩ (fun v w1 H locs hq hP hD hS hz => ?_)
    obtain ⟨rfl, rfl⟩ := hq
    obtain ⟨B_1, hB_1⟩ : ∃ zz, zz = bVisit B := ⟨_, rfl⟩
    rw [← hB_1] at hP hD
    have hP : va_P D vwCl [(h, .inr (0, [.ref a0, .ref a1, .ref a2, .ref a3, .ref a4, .ref a5, .int B_1.2.2.2.2.1, .int B_1.2.2.2.2.2.1, .int B_1.2.2.2.2.2.2])), (a0, .inl (cI, 128, .inl fi)), (a1, .inl (cI, 128, .inl la)), (a2, .inl (cI, 128, .inl B_1.1)), (a3, .inl (cI, 128, .inl B_1.2.1)), (a4, .inl (cI, 128, .inl B_1.2.2.1)), (a5, .inl (cI, 128, .inl B_1.2.2.2.1))] H := hP
    have hD : va_D A [(h, .inr (0, [.ref a0, .ref a1, .ref a2, .ref a3, .ref a4, .ref a5, .int B_1.2.2.2.2.1, .int B_1.2.2.2.2.2.1, .int B_1.2.2.2.2.2.2])), (a0, .inl (cI, 128, .inl fi)), (a1, .inl (cI, 128, .inl la)), (a2, .inl (cI, 128, .inl B_1.1)), (a3, .inl (cI, 128, .inl B_1.2.1)), (a4, .inl (cI, 128, .inl B_1.2.2.1)), (a5, .inl (cI, 128, .inl B_1.2.2.2.1))] := hD
    refine W.eq (g2 := F0 m 4 ls []) rfl ?_
    refine lv_aload_n hx hb dX0_sumFrom_4 rfl (lv_at hl 0 rfl) ?_
    refine lv_iload_n hx hb dX0_sumFrom_5 rfl (lv_at hl 1 rfl) ?_
    refine lv_iload_n hx hb dX0_sumFrom_6 rfl (lv_at hl 2 rfl) ?_
    refine lv_iload_n hx hb dX0_sumFrom_7 rfl (lv_at hl 3 rfl) ?_
    refine pq_callV (wr := []) (own := RX0) (nL := 4) (q0 := 0) (ci := 0) [0, 1, 2, 3, 4, 5, 6] [] [.int (nI e), .int a, .int b] (mX0_isApart l D cI h a0 a1 a2 a3 a4 a5 fi la B_1 e a b (by omega)) ⟨hx, hb, hml, hown, hts⟩ (cwV 3 hts gX0_sumFrom_X0_isApart rfl rfl rfl (by decide +kernel) ⟨by dsimp only [pq_R]; omega, by dsimp only [pq_R]; omega⟩) pq_bl0 (fun _ _ _ => trivial) hK hP hD hS hA rfl (by decide) rfl (by decide) (by decide) rfl rfl rfl rfl hl.1 rfl (Nat.le_of_ble_eq_true rfl) dX0_sumFrom_8 ⟨by dsimp only [pq_R]; omega, by dsimp only [pq_R]; omega⟩ (fun v w1 H locs hq hP hD hS hz => ?_)
    obtain ⟨rfl, rfl⟩ := hq
    have hP : va_P D vwCl [(h, .inr (0, [.ref a0, .ref a1, .ref a2, .ref a3, .ref a4, .ref a5, .int B_1.2.2.2.2.1, .int B_1.2.2.2.2.2.1, .int B_1.2.2.2.2.2.2])), (a0, .inl (cI, 128, .inl fi)), (a1, .inl (cI, 128, .inl la)), (a2, .inl (cI, 128, .inl B_1.1)), (a3, .inl (cI, 128, .inl B_1.2.1)), (a4, .inl (cI, 128, .inl B_1.2.2.1)), (a5, .inl (cI, 128, .inl B_1.2.2.2.1))] H := hP
    have hD : va_D A [(h, .inr (0, [.ref a0, .ref a1, .ref a2, .ref a3, .ref a4, .ref a5, .int B_1.2.2.2.2.1, .int B_1.2.2.2.2.2.1, .int B_1.2.2.2.2.2.2])), (a0, .inl (cI, 128, .inl fi)), (a1, .inl (cI, 128, .inl la)), (a2, .inl (cI, 128, .inl B_1.1)), (a3, .inl (cI, 128, .inl B_1.2.1)), (a4, .inl (cI, 128, .inl B_1.2.2.1)), (a5, .inl (cI, 128, .inl B_1.2.2.2.1))] := hD
    by_cases b_2 : bAp fi la e a b
    · rw [if_pos b_2]
      refine W.eq (g2 := F0 m 11 ls [.int 1]) rfl ?_
      refine lv_if_eq (tgt := 16) hx hb dX0_sumFrom_11 (by decide) (fun c9 => absurd c9 (by decide)) (fun _ => ?_)
      refine lv_iconst (v := 0) hx hb dX0_sumFrom_14 (by decide) ?_
      exact pq_iret hQ hx hb hr hlocks hK hS hP hD dX0_sumFrom_15 (by omega) (by omega) (⟨by subst hB_1; rw [bSumFrom, if_pos b_2] <;> rfl, by subst hB_1; rw [bSumFrom, if_pos b_2] <;> rfl⟩)
    · rw [if_neg b_2]
      refine W.eq (g2 := F0 m 11 ls [.int 0]) rfl ?_
      refine lv_if_eq (tgt := 16) hx hb dX0_sumFrom_11 (by decide) (fun _ => ?_) (fun c9 => absurd c9 (by decide))
      refine lv_aload_n hx hb dX0_sumFrom_16 rfl (lv_at hl 0 rfl) ?_
      refine lv_iload_n hx hb dX0_sumFrom_17 rfl (lv_at hl 1 rfl) ?_
      refine lv_iload_n hx hb dX0_sumFrom_18 rfl (lv_at hl 2 rfl) ?_
      refine lv_iload_n hx hb dX0_sumFrom_19 rfl (lv_at hl 3 rfl) ?_
      refine pq_callV (wr := []) (own := RX0) (nL := 4) (q0 := 0) (ci := 0) [0, 1, 2, 3, 4, 5, 6] [] [.int (nI e), .int a, .int b] (mX0_isWithin l D cI h a0 a1 a2 a3 a4 a5 fi la B_1 e a b (by omega)) ⟨hx, hb, hml, hown, hts⟩ (cwV 3 hts gX0_sumFrom_X0_isWithin rfl rfl rfl (by decide +kernel) ⟨by dsimp only [pq_R]; omega, by dsimp only [pq_R]; omega⟩) pq_bl0 (fun _ _ _ => trivial) hK hP hD hS hA rfl (by decide) rfl (by decide) (by decide) rfl rfl rfl rfl hl.1 rfl (Nat.le_of_ble_eq_true rfl) dX0_sumFrom_20 ⟨by dsimp only [pq_R]; omega, by dsimp only [pq_R]; omega⟩ (fun v w1 H locs hq hP hD hS hz => ?_)
      obtain ⟨rfl, rfl⟩ := hq
      have hP : va_P D vwCl [(h, .inr (0, [.ref a0, .ref a1, .ref a2, .ref a3, .ref a4, .ref a5, .int B_1.2.2.2.2.1, .int B_1.2.2.2.2.2.1, .int B_1.2.2.2.2.2.2])), (a0, .inl (cI, 128, .inl fi)), (a1, .inl (cI, 128, .inl la)), (a2, .inl (cI, 128, .inl B_1.1)), (a3, .inl (cI, 128, .inl B_1.2.1)), (a4, .inl (cI, 128, .inl B_1.2.2.1)), (a5, .inl (cI, 128, .inl B_1.2.2.2.1))] H := hP
      have hD : va_D A [(h, .inr (0, [.ref a0, .ref a1, .ref a2, .ref a3, .ref a4, .ref a5, .int B_1.2.2.2.2.1, .int B_1.2.2.2.2.2.1, .int B_1.2.2.2.2.2.2])), (a0, .inl (cI, 128, .inl fi)), (a1, .inl (cI, 128, .inl la)), (a2, .inl (cI, 128, .inl B_1.1)), (a3, .inl (cI, 128, .inl B_1.2.1)), (a4, .inl (cI, 128, .inl B_1.2.2.1)), (a5, .inl (cI, 128, .inl B_1.2.2.2.1))] := hD
      by_cases b_3 : bWi fi la e a b
      · rw [if_pos b_3]
        refine W.eq (g2 := F0 m 23 ls [.int 1]) rfl ?_
        refine lv_if_ne (tgt := 34) hx hb dX0_sumFrom_23 (by decide) (fun _ => ?_) (fun c9 => absurd c9 (by decide))
        refine lv_aload_n hx hb dX0_sumFrom_34 rfl (lv_at hl 0 rfl) ?_
        refine va_get (D := D) (ci := 0) (v := .ref a5) (C := RX0) (T := TX0) (N := 9) hx hb hts hin_X0 hown hK hP 0 rfl rfl 5 (by decide) hf_PressedPlains_Book_27 (fun _ h9 => h9) rfl dX0_sumFrom_35 ?_
        refine lv_iload_n hx hb dX0_sumFrom_38 rfl (lv_at hl 1 rfl) ?_
        refine pq_iald hx hb hK hP 6 0 rfl rfl e (by omega) (by decide) dX0_sumFrom_39 ?_
        exact pq_iret hQ hx hb hr hlocks hK hS hP hD dX0_sumFrom_40 (by omega) (by omega) (⟨by subst hB_1; rw [bSumFrom, if_neg b_2, if_pos (Or.inl b_3)] <;> rfl, by subst hB_1; rw [bSumFrom, if_neg b_2, if_pos (Or.inl b_3)] <;> rfl⟩)
      · rw [if_neg b_3]
        refine W.eq (g2 := F0 m 23 ls [.int 0]) rfl ?_
        refine lv_if_ne (tgt := 34) hx hb dX0_sumFrom_23 (by decide) (fun c9 => absurd c9 (by decide)) (fun _ => ?_)
        refine lv_aload_n hx hb dX0_sumFrom_26 rfl (lv_at hl 0 rfl) ?_
        refine lv_iload_n hx hb dX0_sumFrom_27 rfl (lv_at hl 1 rfl) ?_
        refine pq_callV (wr := []) (own := RX0) (nL := 4) (q0 := 0) (ci := 0) [0, 1, 2, 3, 4, 5, 6] [] [.int (nI e)] (mX0_hasParts l D cI h a0 a1 a2 a3 a4 a5 fi la B_1 e (by omega)) ⟨hx, hb, hml, hown, hts⟩ (cwV 1 hts gX0_sumFrom_X0_hasParts rfl rfl rfl (by decide +kernel) ⟨by dsimp only [pq_R]; omega, by dsimp only [pq_R]; omega⟩) pq_bl0 (fun _ _ _ => trivial) hK hP hD hS hA rfl (by decide) rfl (by decide) (by decide) rfl rfl rfl rfl hl.1 rfl (Nat.le_of_ble_eq_true rfl) dX0_sumFrom_28 ⟨by dsimp only [pq_R]; omega, by dsimp only [pq_R]; omega⟩ (fun v w1 H locs hq hP hD hS hz => ?_)
        obtain ⟨rfl, rfl⟩ := hq
        have hP : va_P D vwCl [(h, .inr (0, [.ref a0, .ref a1, .ref a2, .ref a3, .ref a4, .ref a5, .int B_1.2.2.2.2.1, .int B_1.2.2.2.2.2.1, .int B_1.2.2.2.2.2.2])), (a0, .inl (cI, 128, .inl fi)), (a1, .inl (cI, 128, .inl la)), (a2, .inl (cI, 128, .inl B_1.1)), (a3, .inl (cI, 128, .inl B_1.2.1)), (a4, .inl (cI, 128, .inl B_1.2.2.1)), (a5, .inl (cI, 128, .inl B_1.2.2.2.1))] H := hP
        have hD : va_D A [(h, .inr (0, [.ref a0, .ref a1, .ref a2, .ref a3, .ref a4, .ref a5, .int B_1.2.2.2.2.1, .int B_1.2.2.2.2.2.1, .int B_1.2.2.2.2.2.2])), (a0, .inl (cI, 128, .inl fi)), (a1, .inl (cI, 128, .inl la)), (a2, .inl (cI, 128, .inl B_1.1)), (a3, .inl (cI, 128, .inl B_1.2.1)), (a4, .inl (cI, 128, .inl B_1.2.2.1)), (a5, .inl (cI, 128, .inl B_1.2.2.2.1))] := hD
        by_cases b_4 : bHp fi la e
        · have he64 : e < 64 := bHp_lt (by omega) b_4
          rw [if_pos b_4]
          refine W.eq (g2 := F0 m 31 ls [.int 1]) rfl ?_
          refine lv_if_ne (tgt := 41) hx hb dX0_sumFrom_31 (by decide) (fun _ => ?_) (fun c9 => absurd c9 (by decide))
          refine lv_aload_n hx hb dX0_sumFrom_41 rfl (lv_at hl 0 rfl) ?_
          refine lv_iload_n hx hb dX0_sumFrom_42 rfl (lv_at hl 1 rfl) ?_
          refine pq_callV (wr := []) (own := RX0) (nL := 4) (q0 := 0) (ci := 0) [0, 1, 2, 3, 4, 5, 6] [] [.int (nI e)] (mX0_catchUpBelow l D cI h a0 a1 a2 a3 a4 a5 fi la B_1 e (by omega)) ⟨hx, hb, hml, hown, hts⟩ (cwV 1 hts gX0_sumFrom_X0_catchUpBelow rfl rfl rfl (by decide +kernel) ⟨by dsimp only [pq_R]; omega, by dsimp only [pq_R]; omega⟩) pq_bl0 (fun _ _ _ => trivial) hK hP hD hS hA rfl (by decide) rfl (by decide) (by decide) rfl rfl rfl rfl hl.1 rfl (Nat.le_of_ble_eq_true rfl) dX0_sumFrom_43 ⟨by dsimp only [pq_R]; omega, by dsimp only [pq_R]; omega⟩ (fun v w1 H locs hq hP hD hS hz => ?_)
          obtain ⟨rfl, rfl⟩ := hq
          obtain ⟨B_5, hB_5⟩ : ∃ zz, zz = bCatch2 B_1 e := ⟨_, rfl⟩
          rw [← hB_5] at hP hD
          have hP : va_P D vwCl [(h, .inr (0, [.ref a0, .ref a1, .ref a2, .ref a3, .ref a4, .ref a5, .int B_5.2.2.2.2.1, .int B_5.2.2.2.2.2.1, .int B_5.2.2.2.2.2.2])), (a0, .inl (cI, 128, .inl fi)), (a1, .inl (cI, 128, .inl la)), (a2, .inl (cI, 128, .inl B_5.1)), (a3, .inl (cI, 128, .inl B_5.2.1)), (a4, .inl (cI, 128, .inl B_5.2.2.1)), (a5, .inl (cI, 128, .inl B_5.2.2.2.1))] H := hP
          have hD : va_D A [(h, .inr (0, [.ref a0, .ref a1, .ref a2, .ref a3, .ref a4, .ref a5, .int B_5.2.2.2.2.1, .int B_5.2.2.2.2.2.1, .int B_5.2.2.2.2.2.2])), (a0, .inl (cI, 128, .inl fi)), (a1, .inl (cI, 128, .inl la)), (a2, .inl (cI, 128, .inl B_5.1)), (a3, .inl (cI, 128, .inl B_5.2.1)), (a4, .inl (cI, 128, .inl B_5.2.2.1)), (a5, .inl (cI, 128, .inl B_5.2.2.2.1))] := hD
          refine W.eq (g2 := F0 m 46 ls []) rfl ?_
          refine lv_aload_n hx hb dX0_sumFrom_46 rfl (lv_at hl 0 rfl) ?_
          refine lv_iconst (v := 2) hx hb dX0_sumFrom_47 (by decide) ?_
          refine lv_iload_n hx hb dX0_sumFrom_48 rfl (lv_at hl 1 rfl) ?_
          refine lv_imul hx hb dX0_sumFrom_49 ?_
          refine pq_top (nI (2 * e)) (pk_mul 2 _) ?_
          refine lv_iload_n hx hb dX0_sumFrom_50 rfl (lv_at hl 2 rfl) ?_
          refine lv_iload_n hx hb dX0_sumFrom_51 rfl (lv_at hl 3 rfl) ?_
          refine pq_callV (wr := []) (own := RX0) (nL := 4) (q0 := 0) (ci := 0) [0, 1, 2, 3, 4, 5, 6] [] [.int (nI (2 * e)), .int a, .int b] (ih B_5 (2 * e) (by omega) (pw_1 hd)) ⟨hx, hb, hml, hown, hts⟩ (cwV 3 hts gX0_sumFrom_X0_sumFrom rfl rfl rfl (by decide +kernel) ⟨by dsimp only [pq_R]; omega, by dsimp only [pq_R]; omega⟩) pq_bl0 (fun _ _ _ => trivial) hK hP hD hS hA rfl (by decide) rfl (by decide) (by decide) rfl rfl rfl rfl hl.1 rfl (Nat.le_of_ble_eq_true rfl) dX0_sumFrom_52 ⟨by dsimp only [pq_R]; omega, by dsimp only [pq_R]; omega⟩ (fun v w1 H locs hq hP hD hS hz => ?_)
          obtain ⟨rfl, rfl⟩ := hq
          obtain ⟨B_6, hB_6⟩ : ∃ zz, zz = (bSumFrom fi la a b d B_5 (2 * e)).2 := ⟨_, rfl⟩
          rw [← hB_6] at hP hD
          have hP : va_P D vwCl [(h, .inr (0, [.ref a0, .ref a1, .ref a2, .ref a3, .ref a4, .ref a5, .int B_6.2.2.2.2.1, .int B_6.2.2.2.2.2.1, .int B_6.2.2.2.2.2.2])), (a0, .inl (cI, 128, .inl fi)), (a1, .inl (cI, 128, .inl la)), (a2, .inl (cI, 128, .inl B_6.1)), (a3, .inl (cI, 128, .inl B_6.2.1)), (a4, .inl (cI, 128, .inl B_6.2.2.1)), (a5, .inl (cI, 128, .inl B_6.2.2.2.1))] H := hP
          have hD : va_D A [(h, .inr (0, [.ref a0, .ref a1, .ref a2, .ref a3, .ref a4, .ref a5, .int B_6.2.2.2.2.1, .int B_6.2.2.2.2.2.1, .int B_6.2.2.2.2.2.2])), (a0, .inl (cI, 128, .inl fi)), (a1, .inl (cI, 128, .inl la)), (a2, .inl (cI, 128, .inl B_6.1)), (a3, .inl (cI, 128, .inl B_6.2.1)), (a4, .inl (cI, 128, .inl B_6.2.2.1)), (a5, .inl (cI, 128, .inl B_6.2.2.2.1))] := hD
          refine W.eq (g2 := F0 m 55 ls [.int ((bSumFrom fi la a b d B_5 (2 * e)).1)]) rfl ?_
          refine lv_aload_n hx hb dX0_sumFrom_55 rfl (lv_at hl 0 rfl) ?_
          refine lv_iconst (v := 2) hx hb dX0_sumFrom_56 (by decide) ?_
          refine lv_iload_n hx hb dX0_sumFrom_57 rfl (lv_at hl 1 rfl) ?_
          refine lv_imul hx hb dX0_sumFrom_58 ?_
          refine pq_top (nI (2 * e)) (pk_mul 2 _) ?_
          refine lv_iconst (v := 1) hx hb dX0_sumFrom_59 (by decide) ?_
          refine lv_iadd hx hb dX0_sumFrom_60 ?_
          refine pq_top (nI ((2 * e) + 1)) (nI_1 _) ?_
          refine lv_iload_n hx hb dX0_sumFrom_61 rfl (lv_at hl 2 rfl) ?_
          refine lv_iload_n hx hb dX0_sumFrom_62 rfl (lv_at hl 3 rfl) ?_
          refine pq_callV (wr := []) (own := RX0) (nL := 4) (q0 := 0) (ci := 0) [0, 1, 2, 3, 4, 5, 6] [] [.int (nI ((2 * e) + 1)), .int a, .int b] (ih B_6 ((2 * e) + 1) (by omega) (pw_2 hd)) ⟨hx, hb, hml, hown, hts⟩ (cwV 3 hts gX0_sumFrom_X0_sumFrom rfl rfl rfl (by decide +kernel) ⟨by dsimp only [pq_R]; omega, by dsimp only [pq_R]; omega⟩) pq_bl0 (fun _ _ _ => trivial) hK hP hD hS hA rfl (by decide) rfl (by decide) (by decide) rfl rfl rfl rfl hl.1 rfl (Nat.le_of_ble_eq_true rfl) dX0_sumFrom_63 ⟨by dsimp only [pq_R]; omega, by dsimp only [pq_R]; omega⟩ (fun v w1 H locs hq hP hD hS hz => ?_)
          obtain ⟨rfl, rfl⟩ := hq
          obtain ⟨B_7, hB_7⟩ : ∃ zz, zz = (bSumFrom fi la a b d B_6 ((2 * e) + 1)).2 := ⟨_, rfl⟩
          rw [← hB_7] at hP hD
          have hP : va_P D vwCl [(h, .inr (0, [.ref a0, .ref a1, .ref a2, .ref a3, .ref a4, .ref a5, .int B_7.2.2.2.2.1, .int B_7.2.2.2.2.2.1, .int B_7.2.2.2.2.2.2])), (a0, .inl (cI, 128, .inl fi)), (a1, .inl (cI, 128, .inl la)), (a2, .inl (cI, 128, .inl B_7.1)), (a3, .inl (cI, 128, .inl B_7.2.1)), (a4, .inl (cI, 128, .inl B_7.2.2.1)), (a5, .inl (cI, 128, .inl B_7.2.2.2.1))] H := hP
          have hD : va_D A [(h, .inr (0, [.ref a0, .ref a1, .ref a2, .ref a3, .ref a4, .ref a5, .int B_7.2.2.2.2.1, .int B_7.2.2.2.2.2.1, .int B_7.2.2.2.2.2.2])), (a0, .inl (cI, 128, .inl fi)), (a1, .inl (cI, 128, .inl la)), (a2, .inl (cI, 128, .inl B_7.1)), (a3, .inl (cI, 128, .inl B_7.2.1)), (a4, .inl (cI, 128, .inl B_7.2.2.1)), (a5, .inl (cI, 128, .inl B_7.2.2.2.1))] := hD
          refine W.eq (g2 := F0 m 66 ls [.int ((bSumFrom fi la a b d B_6 ((2 * e) + 1)).1), .int ((bSumFrom fi la a b d B_5 (2 * e)).1)]) rfl ?_
          refine lv_iadd hx hb dX0_sumFrom_66 ?_
          exact pq_iret hQ hx hb hr hlocks hK hS hP hD dX0_sumFrom_67 (by omega) (by omega) (⟨by subst hB_7; subst hB_6; subst hB_5; subst hB_1; rw [bSumFrom, if_neg b_2, if_neg (fun h => h.elim b_3 (fun h => h b_4))] <;> rfl, by subst hB_7; subst hB_6; subst hB_5; subst hB_1; rw [bSumFrom, if_neg b_2, if_neg (fun h => h.elim b_3 (fun h => h b_4))] <;> rfl⟩)
        · rw [if_neg b_4]
          refine W.eq (g2 := F0 m 31 ls [.int 0]) rfl ?_
          refine lv_if_ne (tgt := 41) hx hb dX0_sumFrom_31 (by decide) (fun c9 => absurd c9 (by decide)) (fun _ => ?_)
          refine lv_aload_n hx hb dX0_sumFrom_34 rfl (lv_at hl 0 rfl) ?_
          refine va_get (D := D) (ci := 0) (v := .ref a5) (C := RX0) (T := TX0) (N := 9) hx hb hts hin_X0 hown hK hP 0 rfl rfl 5 (by decide) hf_PressedPlains_Book_27 (fun _ h9 => h9) rfl dX0_sumFrom_35 ?_
          refine lv_iload_n hx hb dX0_sumFrom_38 rfl (lv_at hl 1 rfl) ?_
          refine pq_iald hx hb hK hP 6 0 rfl rfl e (by omega) (by decide) dX0_sumFrom_39 ?_
          exact pq_iret hQ hx hb hr hlocks hK hS hP hD dX0_sumFrom_40 (by omega) (by omega) (⟨by subst hB_1; rw [bSumFrom, if_neg b_2, if_pos (Or.inr b_4)] <;> rfl, by subst hB_1; rw [bSumFrom, if_neg b_2, if_pos (Or.inr b_4)] <;> rfl⟩)

set_option maxHeartbeats 4000000 in
set_option maxRecDepth 100000 in
theorem mX0_greatestFrom (l : Launch) (D : va_G) (cI : ClassId) (h a0 a1 a2 a3 a4 a5 : Nat) (fi la : Nat → Int32) (a b : Int32) : ∀ (d : Nat) (B : BK) (e : Nat), e < 128 → 128 ≤ e * 2 ^ d → pq_M l yX0_greatestFrom wsX0_greatestFrom (d + 3) (64 + d * 23) 0 0 D [(cI, .int)] pq_0 (bkW h a0 a1 a2 a3 a4 a5 cI fi la B) [.ref h, .int (nI e), .int a, .int b] (fun v w1 => v = some (.int (bTopFrom fi la a b d B e).1) ∧ w1 = bkW h a0 a1 a2 a3 a4 a5 cI fi la (bTopFrom fi la a b d B e).2) := by
  intro d
  induction d with
  | zero =>
    intro B e he hd
    simp only [Nat.pow_zero, Nat.mul_one] at hd
    omega
  | succ d ih =>
    intro B e he hd
    refine pq_enter (cc := cX0_greatestFrom) (maxL := 4) (ret := (some .int)) (by decide) rfl (Nat.le_of_ble_eq_true rfl) ?_
    intro p ev s m args below meth cd A ls Q H locs hx hb hr hml hts hown hlocks hnm hK hP hD hS hA hE hl hQ
    have hl : lv_has ls 4 [(0, .ref h), (1, .int (nI e)), (2, .int a), (3, .int b)] := hl
    have hP : va_P D vwCl [(h, .inr (0, [.ref a0, .ref a1, .ref a2, .ref a3, .ref a4, .ref a5, .int B.2.2.2.2.1, .int B.2.2.2.2.2.1, .int B.2.2.2.2.2.2])), (a0, .inl (cI, 128, .inl fi)), (a1, .inl (cI, 128, .inl la)), (a2, .inl (cI, 128, .inl B.1)), (a3, .inl (cI, 128, .inl B.2.1)), (a4, .inl (cI, 128, .inl B.2.2.1)), (a5, .inl (cI, 128, .inl B.2.2.2.1))] H := hP
    have hD : va_D A [(h, .inr (0, [.ref a0, .ref a1, .ref a2, .ref a3, .ref a4, .ref a5, .int B.2.2.2.2.1, .int B.2.2.2.2.2.1, .int B.2.2.2.2.2.2])), (a0, .inl (cI, 128, .inl fi)), (a1, .inl (cI, 128, .inl la)), (a2, .inl (cI, 128, .inl B.1)), (a3, .inl (cI, 128, .inl B.2.1)), (a4, .inl (cI, 128, .inl B.2.2.1)), (a5, .inl (cI, 128, .inl B.2.2.2.1))] := hD
    have hin_X0 : ∀ w ∈ wsX00, w ∈ wsX0_greatestFrom := by decide +kernel
    have hf_PressedPlains_Book_18 := hts (.fieldLink RX0 18 "PressedPlains$Book" "greatest" "[I") (by decide +kernel)
    have hm1_max101 := hts (.methodLink RX0 101 Lib.Math.max.name) (by decide +kernel)
    have hm2_max := hts (.static Lib.Math.max.name) (by decide +kernel)
    have hm3 := hts (.initialized "java/lang/Math") (by decide +kernel)
    have hm4_max := hts (.code Lib.Math.max.name Lib.Math.max.code 2 (some .int)) (by decide +kernel)
    refine lv_aload_n hx hb dX0_greatestFrom_0 rfl (lv_at hl 0 rfl) ?_
    refine pq_callV (wr := []) (own := RX0) (nL := 4) (q0 := 0) (ci := 0) [0, 1, 2, 3, 4, 5, 6] [] [] (mX0_countVisit l D cI h a0 a1 a2 a3 a4 a5 fi la B ) ⟨hx, hb, hml, hown, hts⟩ (cwV 0 hts gX0_greatestFrom_X0_countVisit rfl rfl rfl (by decide +kernel) ⟨by dsimp only [pq_R]; omega, by dsimp only [pq_R]; omega⟩) pq_bl0 (fun _ _ _ => trivial) hK hP hD hS hA rfl (by decide) rfl (by decide) (by decide) rfl rfl rfl rfl hl.1 rfl (Nat.le_of_ble_eq_true rfl) dX0_greatestFrom_1 ⟨by dsimp only [pq_R]; omega, by dsimp only [pq_R]; omega⟩ (fun v w1 H locs hq hP hD hS hz => ?_)
    obtain ⟨rfl, rfl⟩ := hq
    obtain ⟨B_1, hB_1⟩ : ∃ zz, zz = bVisit B := ⟨_, rfl⟩
    rw [← hB_1] at hP hD
    have hP : va_P D vwCl [(h, .inr (0, [.ref a0, .ref a1, .ref a2, .ref a3, .ref a4, .ref a5, .int B_1.2.2.2.2.1, .int B_1.2.2.2.2.2.1, .int B_1.2.2.2.2.2.2])), (a0, .inl (cI, 128, .inl fi)), (a1, .inl (cI, 128, .inl la)), (a2, .inl (cI, 128, .inl B_1.1)), (a3, .inl (cI, 128, .inl B_1.2.1)), (a4, .inl (cI, 128, .inl B_1.2.2.1)), (a5, .inl (cI, 128, .inl B_1.2.2.2.1))] H := hP
    have hD : va_D A [(h, .inr (0, [.ref a0, .ref a1, .ref a2, .ref a3, .ref a4, .ref a5, .int B_1.2.2.2.2.1, .int B_1.2.2.2.2.2.1, .int B_1.2.2.2.2.2.2])), (a0, .inl (cI, 128, .inl fi)), (a1, .inl (cI, 128, .inl la)), (a2, .inl (cI, 128, .inl B_1.1)), (a3, .inl (cI, 128, .inl B_1.2.1)), (a4, .inl (cI, 128, .inl B_1.2.2.1)), (a5, .inl (cI, 128, .inl B_1.2.2.2.1))] := hD
    refine W.eq (g2 := F0 m 4 ls []) rfl ?_
    refine lv_aload_n hx hb dX0_greatestFrom_4 rfl (lv_at hl 0 rfl) ?_
    refine lv_iload_n hx hb dX0_greatestFrom_5 rfl (lv_at hl 1 rfl) ?_
    refine lv_iload_n hx hb dX0_greatestFrom_6 rfl (lv_at hl 2 rfl) ?_
    refine lv_iload_n hx hb dX0_greatestFrom_7 rfl (lv_at hl 3 rfl) ?_
    refine pq_callV (wr := []) (own := RX0) (nL := 4) (q0 := 0) (ci := 0) [0, 1, 2, 3, 4, 5, 6] [] [.int (nI e), .int a, .int b] (mX0_isApart l D cI h a0 a1 a2 a3 a4 a5 fi la B_1 e a b (by omega)) ⟨hx, hb, hml, hown, hts⟩ (cwV 3 hts gX0_greatestFrom_X0_isApart rfl rfl rfl (by decide +kernel) ⟨by dsimp only [pq_R]; omega, by dsimp only [pq_R]; omega⟩) pq_bl0 (fun _ _ _ => trivial) hK hP hD hS hA rfl (by decide) rfl (by decide) (by decide) rfl rfl rfl rfl hl.1 rfl (Nat.le_of_ble_eq_true rfl) dX0_greatestFrom_8 ⟨by dsimp only [pq_R]; omega, by dsimp only [pq_R]; omega⟩ (fun v w1 H locs hq hP hD hS hz => ?_)
    obtain ⟨rfl, rfl⟩ := hq
    have hP : va_P D vwCl [(h, .inr (0, [.ref a0, .ref a1, .ref a2, .ref a3, .ref a4, .ref a5, .int B_1.2.2.2.2.1, .int B_1.2.2.2.2.2.1, .int B_1.2.2.2.2.2.2])), (a0, .inl (cI, 128, .inl fi)), (a1, .inl (cI, 128, .inl la)), (a2, .inl (cI, 128, .inl B_1.1)), (a3, .inl (cI, 128, .inl B_1.2.1)), (a4, .inl (cI, 128, .inl B_1.2.2.1)), (a5, .inl (cI, 128, .inl B_1.2.2.2.1))] H := hP
    have hD : va_D A [(h, .inr (0, [.ref a0, .ref a1, .ref a2, .ref a3, .ref a4, .ref a5, .int B_1.2.2.2.2.1, .int B_1.2.2.2.2.2.1, .int B_1.2.2.2.2.2.2])), (a0, .inl (cI, 128, .inl fi)), (a1, .inl (cI, 128, .inl la)), (a2, .inl (cI, 128, .inl B_1.1)), (a3, .inl (cI, 128, .inl B_1.2.1)), (a4, .inl (cI, 128, .inl B_1.2.2.1)), (a5, .inl (cI, 128, .inl B_1.2.2.2.1))] := hD
    by_cases b_2 : bAp fi la e a b
    · rw [if_pos b_2]
      refine W.eq (g2 := F0 m 11 ls [.int 1]) rfl ?_
      refine lv_if_eq (tgt := 16) hx hb dX0_greatestFrom_11 (by decide) (fun c9 => absurd c9 (by decide)) (fun _ => ?_)
      refine lv_iconst (v := (-1)) hx hb dX0_greatestFrom_14 (by decide) ?_
      exact pq_iret hQ hx hb hr hlocks hK hS hP hD dX0_greatestFrom_15 (by omega) (by omega) (⟨by subst hB_1; rw [bTopFrom, if_pos b_2] <;> rfl, by subst hB_1; rw [bTopFrom, if_pos b_2] <;> rfl⟩)
    · rw [if_neg b_2]
      refine W.eq (g2 := F0 m 11 ls [.int 0]) rfl ?_
      refine lv_if_eq (tgt := 16) hx hb dX0_greatestFrom_11 (by decide) (fun _ => ?_) (fun c9 => absurd c9 (by decide))
      refine lv_aload_n hx hb dX0_greatestFrom_16 rfl (lv_at hl 0 rfl) ?_
      refine lv_iload_n hx hb dX0_greatestFrom_17 rfl (lv_at hl 1 rfl) ?_
      refine lv_iload_n hx hb dX0_greatestFrom_18 rfl (lv_at hl 2 rfl) ?_
      refine lv_iload_n hx hb dX0_greatestFrom_19 rfl (lv_at hl 3 rfl) ?_
      refine pq_callV (wr := []) (own := RX0) (nL := 4) (q0 := 0) (ci := 0) [0, 1, 2, 3, 4, 5, 6] [] [.int (nI e), .int a, .int b] (mX0_isWithin l D cI h a0 a1 a2 a3 a4 a5 fi la B_1 e a b (by omega)) ⟨hx, hb, hml, hown, hts⟩ (cwV 3 hts gX0_greatestFrom_X0_isWithin rfl rfl rfl (by decide +kernel) ⟨by dsimp only [pq_R]; omega, by dsimp only [pq_R]; omega⟩) pq_bl0 (fun _ _ _ => trivial) hK hP hD hS hA rfl (by decide) rfl (by decide) (by decide) rfl rfl rfl rfl hl.1 rfl (Nat.le_of_ble_eq_true rfl) dX0_greatestFrom_20 ⟨by dsimp only [pq_R]; omega, by dsimp only [pq_R]; omega⟩ (fun v w1 H locs hq hP hD hS hz => ?_)
      obtain ⟨rfl, rfl⟩ := hq
      have hP : va_P D vwCl [(h, .inr (0, [.ref a0, .ref a1, .ref a2, .ref a3, .ref a4, .ref a5, .int B_1.2.2.2.2.1, .int B_1.2.2.2.2.2.1, .int B_1.2.2.2.2.2.2])), (a0, .inl (cI, 128, .inl fi)), (a1, .inl (cI, 128, .inl la)), (a2, .inl (cI, 128, .inl B_1.1)), (a3, .inl (cI, 128, .inl B_1.2.1)), (a4, .inl (cI, 128, .inl B_1.2.2.1)), (a5, .inl (cI, 128, .inl B_1.2.2.2.1))] H := hP
      have hD : va_D A [(h, .inr (0, [.ref a0, .ref a1, .ref a2, .ref a3, .ref a4, .ref a5, .int B_1.2.2.2.2.1, .int B_1.2.2.2.2.2.1, .int B_1.2.2.2.2.2.2])), (a0, .inl (cI, 128, .inl fi)), (a1, .inl (cI, 128, .inl la)), (a2, .inl (cI, 128, .inl B_1.1)), (a3, .inl (cI, 128, .inl B_1.2.1)), (a4, .inl (cI, 128, .inl B_1.2.2.1)), (a5, .inl (cI, 128, .inl B_1.2.2.2.1))] := hD
      by_cases b_3 : bWi fi la e a b
      · rw [if_pos b_3]
        refine W.eq (g2 := F0 m 23 ls [.int 1]) rfl ?_
        refine lv_if_ne (tgt := 34) hx hb dX0_greatestFrom_23 (by decide) (fun _ => ?_) (fun c9 => absurd c9 (by decide))
        refine lv_aload_n hx hb dX0_greatestFrom_34 rfl (lv_at hl 0 rfl) ?_
        refine va_get (D := D) (ci := 0) (v := .ref a2) (C := RX0) (T := TX0) (N := 9) hx hb hts hin_X0 hown hK hP 0 rfl rfl 2 (by decide) hf_PressedPlains_Book_18 (fun _ h9 => h9) rfl dX0_greatestFrom_35 ?_
        refine lv_iload_n hx hb dX0_greatestFrom_38 rfl (lv_at hl 1 rfl) ?_
        refine pq_iald hx hb hK hP 3 0 rfl rfl e (by omega) (by decide) dX0_greatestFrom_39 ?_
        exact pq_iret hQ hx hb hr hlocks hK hS hP hD dX0_greatestFrom_40 (by omega) (by omega) (⟨by subst hB_1; rw [bTopFrom, if_neg b_2, if_pos (Or.inl b_3)] <;> rfl, by subst hB_1; rw [bTopFrom, if_neg b_2, if_pos (Or.inl b_3)] <;> rfl⟩)
      · rw [if_neg b_3]
        refine W.eq (g2 := F0 m 23 ls [.int 0]) rfl ?_
        refine lv_if_ne (tgt := 34) hx hb dX0_greatestFrom_23 (by decide) (fun c9 => absurd c9 (by decide)) (fun _ => ?_)
        refine lv_aload_n hx hb dX0_greatestFrom_26 rfl (lv_at hl 0 rfl) ?_
        refine lv_iload_n hx hb dX0_greatestFrom_27 rfl (lv_at hl 1 rfl) ?_
        refine pq_callV (wr := []) (own := RX0) (nL := 4) (q0 := 0) (ci := 0) [0, 1, 2, 3, 4, 5, 6] [] [.int (nI e)] (mX0_hasParts l D cI h a0 a1 a2 a3 a4 a5 fi la B_1 e (by omega)) ⟨hx, hb, hml, hown, hts⟩ (cwV 1 hts gX0_greatestFrom_X0_hasParts rfl rfl rfl (by decide +kernel) ⟨by dsimp only [pq_R]; omega, by dsimp only [pq_R]; omega⟩) pq_bl0 (fun _ _ _ => trivial) hK hP hD hS hA rfl (by decide) rfl (by decide) (by decide) rfl rfl rfl rfl hl.1 rfl (Nat.le_of_ble_eq_true rfl) dX0_greatestFrom_28 ⟨by dsimp only [pq_R]; omega, by dsimp only [pq_R]; omega⟩ (fun v w1 H locs hq hP hD hS hz => ?_)
        obtain ⟨rfl, rfl⟩ := hq
        have hP : va_P D vwCl [(h, .inr (0, [.ref a0, .ref a1, .ref a2, .ref a3, .ref a4, .ref a5, .int B_1.2.2.2.2.1, .int B_1.2.2.2.2.2.1, .int B_1.2.2.2.2.2.2])), (a0, .inl (cI, 128, .inl fi)), (a1, .inl (cI, 128, .inl la)), (a2, .inl (cI, 128, .inl B_1.1)), (a3, .inl (cI, 128, .inl B_1.2.1)), (a4, .inl (cI, 128, .inl B_1.2.2.1)), (a5, .inl (cI, 128, .inl B_1.2.2.2.1))] H := hP
        have hD : va_D A [(h, .inr (0, [.ref a0, .ref a1, .ref a2, .ref a3, .ref a4, .ref a5, .int B_1.2.2.2.2.1, .int B_1.2.2.2.2.2.1, .int B_1.2.2.2.2.2.2])), (a0, .inl (cI, 128, .inl fi)), (a1, .inl (cI, 128, .inl la)), (a2, .inl (cI, 128, .inl B_1.1)), (a3, .inl (cI, 128, .inl B_1.2.1)), (a4, .inl (cI, 128, .inl B_1.2.2.1)), (a5, .inl (cI, 128, .inl B_1.2.2.2.1))] := hD
        by_cases b_4 : bHp fi la e
        · have he64 : e < 64 := bHp_lt (by omega) b_4
          rw [if_pos b_4]
          refine W.eq (g2 := F0 m 31 ls [.int 1]) rfl ?_
          refine lv_if_ne (tgt := 41) hx hb dX0_greatestFrom_31 (by decide) (fun _ => ?_) (fun c9 => absurd c9 (by decide))
          refine lv_aload_n hx hb dX0_greatestFrom_41 rfl (lv_at hl 0 rfl) ?_
          refine lv_iload_n hx hb dX0_greatestFrom_42 rfl (lv_at hl 1 rfl) ?_
          refine pq_callV (wr := []) (own := RX0) (nL := 4) (q0 := 0) (ci := 0) [0, 1, 2, 3, 4, 5, 6] [] [.int (nI e)] (mX0_catchUpBelow l D cI h a0 a1 a2 a3 a4 a5 fi la B_1 e (by omega)) ⟨hx, hb, hml, hown, hts⟩ (cwV 1 hts gX0_greatestFrom_X0_catchUpBelow rfl rfl rfl (by decide +kernel) ⟨by dsimp only [pq_R]; omega, by dsimp only [pq_R]; omega⟩) pq_bl0 (fun _ _ _ => trivial) hK hP hD hS hA rfl (by decide) rfl (by decide) (by decide) rfl rfl rfl rfl hl.1 rfl (Nat.le_of_ble_eq_true rfl) dX0_greatestFrom_43 ⟨by dsimp only [pq_R]; omega, by dsimp only [pq_R]; omega⟩ (fun v w1 H locs hq hP hD hS hz => ?_)
          obtain ⟨rfl, rfl⟩ := hq
          obtain ⟨B_5, hB_5⟩ : ∃ zz, zz = bCatch2 B_1 e := ⟨_, rfl⟩
          rw [← hB_5] at hP hD
          have hP : va_P D vwCl [(h, .inr (0, [.ref a0, .ref a1, .ref a2, .ref a3, .ref a4, .ref a5, .int B_5.2.2.2.2.1, .int B_5.2.2.2.2.2.1, .int B_5.2.2.2.2.2.2])), (a0, .inl (cI, 128, .inl fi)), (a1, .inl (cI, 128, .inl la)), (a2, .inl (cI, 128, .inl B_5.1)), (a3, .inl (cI, 128, .inl B_5.2.1)), (a4, .inl (cI, 128, .inl B_5.2.2.1)), (a5, .inl (cI, 128, .inl B_5.2.2.2.1))] H := hP
          have hD : va_D A [(h, .inr (0, [.ref a0, .ref a1, .ref a2, .ref a3, .ref a4, .ref a5, .int B_5.2.2.2.2.1, .int B_5.2.2.2.2.2.1, .int B_5.2.2.2.2.2.2])), (a0, .inl (cI, 128, .inl fi)), (a1, .inl (cI, 128, .inl la)), (a2, .inl (cI, 128, .inl B_5.1)), (a3, .inl (cI, 128, .inl B_5.2.1)), (a4, .inl (cI, 128, .inl B_5.2.2.1)), (a5, .inl (cI, 128, .inl B_5.2.2.2.1))] := hD
          refine W.eq (g2 := F0 m 46 ls []) rfl ?_
          refine lv_aload_n hx hb dX0_greatestFrom_46 rfl (lv_at hl 0 rfl) ?_
          refine lv_iconst (v := 2) hx hb dX0_greatestFrom_47 (by decide) ?_
          refine lv_iload_n hx hb dX0_greatestFrom_48 rfl (lv_at hl 1 rfl) ?_
          refine lv_imul hx hb dX0_greatestFrom_49 ?_
          refine pq_top (nI (2 * e)) (pk_mul 2 _) ?_
          refine lv_iload_n hx hb dX0_greatestFrom_50 rfl (lv_at hl 2 rfl) ?_
          refine lv_iload_n hx hb dX0_greatestFrom_51 rfl (lv_at hl 3 rfl) ?_
          refine pq_callV (wr := []) (own := RX0) (nL := 4) (q0 := 0) (ci := 0) [0, 1, 2, 3, 4, 5, 6] [] [.int (nI (2 * e)), .int a, .int b] (ih B_5 (2 * e) (by omega) (pw_1 hd)) ⟨hx, hb, hml, hown, hts⟩ (cwV 3 hts gX0_greatestFrom_X0_greatestFrom rfl rfl rfl (by decide +kernel) ⟨by dsimp only [pq_R]; omega, by dsimp only [pq_R]; omega⟩) pq_bl0 (fun _ _ _ => trivial) hK hP hD hS hA rfl (by decide) rfl (by decide) (by decide) rfl rfl rfl rfl hl.1 rfl (Nat.le_of_ble_eq_true rfl) dX0_greatestFrom_52 ⟨by dsimp only [pq_R]; omega, by dsimp only [pq_R]; omega⟩ (fun v w1 H locs hq hP hD hS hz => ?_)
          obtain ⟨rfl, rfl⟩ := hq
          obtain ⟨B_6, hB_6⟩ : ∃ zz, zz = (bTopFrom fi la a b d B_5 (2 * e)).2 := ⟨_, rfl⟩
          rw [← hB_6] at hP hD
          have hP : va_P D vwCl [(h, .inr (0, [.ref a0, .ref a1, .ref a2, .ref a3, .ref a4, .ref a5, .int B_6.2.2.2.2.1, .int B_6.2.2.2.2.2.1, .int B_6.2.2.2.2.2.2])), (a0, .inl (cI, 128, .inl fi)), (a1, .inl (cI, 128, .inl la)), (a2, .inl (cI, 128, .inl B_6.1)), (a3, .inl (cI, 128, .inl B_6.2.1)), (a4, .inl (cI, 128, .inl B_6.2.2.1)), (a5, .inl (cI, 128, .inl B_6.2.2.2.1))] H := hP
          have hD : va_D A [(h, .inr (0, [.ref a0, .ref a1, .ref a2, .ref a3, .ref a4, .ref a5, .int B_6.2.2.2.2.1, .int B_6.2.2.2.2.2.1, .int B_6.2.2.2.2.2.2])), (a0, .inl (cI, 128, .inl fi)), (a1, .inl (cI, 128, .inl la)), (a2, .inl (cI, 128, .inl B_6.1)), (a3, .inl (cI, 128, .inl B_6.2.1)), (a4, .inl (cI, 128, .inl B_6.2.2.1)), (a5, .inl (cI, 128, .inl B_6.2.2.2.1))] := hD
          refine W.eq (g2 := F0 m 55 ls [.int ((bTopFrom fi la a b d B_5 (2 * e)).1)]) rfl ?_
          refine lv_aload_n hx hb dX0_greatestFrom_55 rfl (lv_at hl 0 rfl) ?_
          refine lv_iconst (v := 2) hx hb dX0_greatestFrom_56 (by decide) ?_
          refine lv_iload_n hx hb dX0_greatestFrom_57 rfl (lv_at hl 1 rfl) ?_
          refine lv_imul hx hb dX0_greatestFrom_58 ?_
          refine pq_top (nI (2 * e)) (pk_mul 2 _) ?_
          refine lv_iconst (v := 1) hx hb dX0_greatestFrom_59 (by decide) ?_
          refine lv_iadd hx hb dX0_greatestFrom_60 ?_
          refine pq_top (nI ((2 * e) + 1)) (nI_1 _) ?_
          refine lv_iload_n hx hb dX0_greatestFrom_61 rfl (lv_at hl 2 rfl) ?_
          refine lv_iload_n hx hb dX0_greatestFrom_62 rfl (lv_at hl 3 rfl) ?_
          refine pq_callV (wr := []) (own := RX0) (nL := 4) (q0 := 0) (ci := 0) [0, 1, 2, 3, 4, 5, 6] [] [.int (nI ((2 * e) + 1)), .int a, .int b] (ih B_6 ((2 * e) + 1) (by omega) (pw_2 hd)) ⟨hx, hb, hml, hown, hts⟩ (cwV 3 hts gX0_greatestFrom_X0_greatestFrom rfl rfl rfl (by decide +kernel) ⟨by dsimp only [pq_R]; omega, by dsimp only [pq_R]; omega⟩) pq_bl0 (fun _ _ _ => trivial) hK hP hD hS hA rfl (by decide) rfl (by decide) (by decide) rfl rfl rfl rfl hl.1 rfl (Nat.le_of_ble_eq_true rfl) dX0_greatestFrom_63 ⟨by dsimp only [pq_R]; omega, by dsimp only [pq_R]; omega⟩ (fun v w1 H locs hq hP hD hS hz => ?_)
          obtain ⟨rfl, rfl⟩ := hq
          obtain ⟨B_7, hB_7⟩ : ∃ zz, zz = (bTopFrom fi la a b d B_6 ((2 * e) + 1)).2 := ⟨_, rfl⟩
          rw [← hB_7] at hP hD
          have hP : va_P D vwCl [(h, .inr (0, [.ref a0, .ref a1, .ref a2, .ref a3, .ref a4, .ref a5, .int B_7.2.2.2.2.1, .int B_7.2.2.2.2.2.1, .int B_7.2.2.2.2.2.2])), (a0, .inl (cI, 128, .inl fi)), (a1, .inl (cI, 128, .inl la)), (a2, .inl (cI, 128, .inl B_7.1)), (a3, .inl (cI, 128, .inl B_7.2.1)), (a4, .inl (cI, 128, .inl B_7.2.2.1)), (a5, .inl (cI, 128, .inl B_7.2.2.2.1))] H := hP
          have hD : va_D A [(h, .inr (0, [.ref a0, .ref a1, .ref a2, .ref a3, .ref a4, .ref a5, .int B_7.2.2.2.2.1, .int B_7.2.2.2.2.2.1, .int B_7.2.2.2.2.2.2])), (a0, .inl (cI, 128, .inl fi)), (a1, .inl (cI, 128, .inl la)), (a2, .inl (cI, 128, .inl B_7.1)), (a3, .inl (cI, 128, .inl B_7.2.1)), (a4, .inl (cI, 128, .inl B_7.2.2.1)), (a5, .inl (cI, 128, .inl B_7.2.2.2.1))] := hD
          refine W.eq (g2 := F0 m 66 ls [.int ((bTopFrom fi la a b d B_6 ((2 * e) + 1)).1), .int ((bTopFrom fi la a b d B_5 (2 * e)).1)]) rfl ?_
          refine va_mmax hx hb (hml.trans hl.1.symm) hown hm1_max101 hm2_max hm3 hm4_max (by first | exact Nat.le_of_ble_eq_true rfl | (dsimp only [pq_R]; omega)) (by first | exact Nat.le_of_ble_eq_true rfl | (simp only [List.map_nil, List.map_cons, List.sum_nil, List.sum_cons, pq_R, Value.category]; omega)) (Nat.le_of_ble_eq_true rfl) (Nat.le_of_ble_eq_true rfl) dX0_greatestFrom_66 ?_
          refine pq_top (bMax ((bTopFrom fi la a b d B_5 (2 * e)).1) ((bTopFrom fi la a b d B_6 ((2 * e) + 1)).1)) rfl ?_
          exact pq_iret hQ hx hb hr hlocks hK hS hP hD dX0_greatestFrom_69 (by omega) (by omega) (⟨by subst hB_7; subst hB_6; subst hB_5; subst hB_1; rw [bTopFrom, if_neg b_2, if_neg (fun h => h.elim b_3 (fun h => h b_4))] <;> rfl, by subst hB_7; subst hB_6; subst hB_5; subst hB_1; rw [bTopFrom, if_neg b_2, if_neg (fun h => h.elim b_3 (fun h => h b_4))] <;> rfl⟩)
        · rw [if_neg b_4]
          refine W.eq (g2 := F0 m 31 ls [.int 0]) rfl ?_
          refine lv_if_ne (tgt := 41) hx hb dX0_greatestFrom_31 (by decide) (fun c9 => absurd c9 (by decide)) (fun _ => ?_)
          refine lv_aload_n hx hb dX0_greatestFrom_34 rfl (lv_at hl 0 rfl) ?_
          refine va_get (D := D) (ci := 0) (v := .ref a2) (C := RX0) (T := TX0) (N := 9) hx hb hts hin_X0 hown hK hP 0 rfl rfl 2 (by decide) hf_PressedPlains_Book_18 (fun _ h9 => h9) rfl dX0_greatestFrom_35 ?_
          refine lv_iload_n hx hb dX0_greatestFrom_38 rfl (lv_at hl 1 rfl) ?_
          refine pq_iald hx hb hK hP 3 0 rfl rfl e (by omega) (by decide) dX0_greatestFrom_39 ?_
          exact pq_iret hQ hx hb hr hlocks hK hS hP hD dX0_greatestFrom_40 (by omega) (by omega) (⟨by subst hB_1; rw [bTopFrom, if_neg b_2, if_pos (Or.inr b_4)] <;> rfl, by subst hB_1; rw [bTopFrom, if_neg b_2, if_pos (Or.inr b_4)] <;> rfl⟩)
