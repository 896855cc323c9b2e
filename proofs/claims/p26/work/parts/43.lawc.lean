set_option maxHeartbeats 4000000 in
set_option maxRecDepth 100000 in
theorem mL_does (l : Launch) (D : va_G) (cI : ClassId) (q h a0 a1 a2 a3 a4 a5 g b0 b1 : Nat) {N : Nat} {hs cs : Nat → Nat} {vis tot cal : Nat} {fi la : Nat → Int32} {B : BK} {G : GK} {pr : Int32} (I : J N hs cs vis tot cal fi la B G pr) (ht : tot ≤ 100000) (v w : Int32) : pq_M l yL_does wsL_does 15 364 0 0 D [(cI, .int)] pq_Ev (ppW q h a0 a1 a2 a3 a4 a5 g b0 b1 cI fi la B G pr) [.ref q, .int v, .int w] (Lp q h a0 a1 a2 a3 a4 a5 g b0 b1 cI (tot + 256)) := by
  refine pq_enter (cc := cL_does) (maxL := 8) (ret := (some .boolean)) (by decide) rfl (Nat.le_of_ble_eq_true rfl) ?_
  intro p ev s m args below meth cd A ls Q H locs hx hb hr hml hts hown hlocks hnm hK hP hD hS hA hE hl hQ
  have hl : lv_has ls 8 [(0, .ref q), (1, .int v), (2, .int w)] := hl
  have hP : va_P D vwCl (ppW q h a0 a1 a2 a3 a4 a5 g b0 b1 cI fi la B G pr) H := hP
  have hD : va_D A (ppW q h a0 a1 a2 a3 a4 a5 g b0 b1 cI fi la B G pr) := hD
  have hN1 := I.1
  have hN2 := I.2.1
  refine lv_aload_n hx hb dL_does_0 rfl (lv_at hl 0 rfl) ?_
  refine pq_callV (wr := []) (own := RL) (nL := 8) (q0 := 0) (ci := 2) [0, 1, 2, 3, 4, 5, 6, 7, 8, 9, 10] [] [] (f_columns l D cI q h a0 a1 a2 a3 a4 a5 g b0 b1 I) ⟨hx, hb, hml, hown, hts⟩ (cwV 0 hts gL_does_X2_columns rfl rfl rfl (by decide +kernel) ⟨by dsimp only [pq_R]; omega, by dsimp only [pq_R]; omega⟩) pq_blE (hE.call hD hS hA [0, 1, 2, 3, 4, 5, 6, 7, 8, 9, 10] rfl) hK hP hD hS hA rfl (by decide) rfl (by decide) (by decide) rfl rfl rfl rfl hl.1 rfl (Nat.le_of_ble_eq_true rfl) dL_does_1 ⟨by dsimp only [pq_R]; omega, by dsimp only [pq_R]; omega⟩ (fun v w1 H locs hq hP hD hS hz => ?_)
  obtain ⟨rfl, rfl⟩ := hq
  have hP : va_P D vwCl (ppW q h a0 a1 a2 a3 a4 a5 g b0 b1 cI fi la B G pr) H := hP
  have hD : va_D A (ppW q h a0 a1 a2 a3 a4 a5 g b0 b1 cI fi la B G pr) := hD
  refine W.eq (g2 := F0 m 4 ls [.int (nI N)]) rfl ?_
  refine lv_istore_n (lv' := [(3, .int (nI N)), (0, .ref q), (1, .int v), (2, .int w)]) hx hb dL_does_4 rfl hl (by decide) rfl (fun ls hl => ?_)
  refine lv_iload_n hx hb dL_does_5 rfl (lv_at hl 3 rfl) ?_
  refine lv_iload_n hx hb dL_does_6 rfl (lv_at hl 0 rfl) ?_
  refine pq_callS (wr := (ppW q h a0 a1 a2 a3 a4 a5 g b0 b1 cI fi la B G pr)) (own := RL) (nL := 8) [] [0, 1, 2, 3, 4, 5, 6, 7, 8, 9, 10] [.int w, .int (nI N)] (mL_low l D cI w (n := N) (by omega) (by omega)) ⟨hx, hb, hml, hown, hts⟩ (va_cwS 2 hts gL_does_L_low rfl rfl rfl (by decide +kernel) ⟨by dsimp only [pq_R]; omega, by dsimp only [pq_R]; omega⟩) pq_bl0 (fun _ _ _ => trivial) hK hP hD hS hA rfl (by decide) rfl (by decide) (by decide) rfl hl.1 rfl (Nat.le_of_ble_eq_true rfl) dL_does_7 ⟨by dsimp only [pq_R]; omega, by dsimp only [pq_R]; omega⟩ (fun v w1 H locs hq hP hD hS hz => ?_)
  obtain ⟨r_2, hr_2, rfl, rfl⟩ := hq
  have hP : va_P D vwCl (ppW q h a0 a1 a2 a3 a4 a5 g b0 b1 cI fi la B G pr) H := by rw [List.append_nil] at hP; exact hP
  have hD : va_D A (ppW q h a0 a1 a2 a3 a4 a5 g b0 b1 cI fi la B G pr) := by rw [List.append_nil] at hD; exact hD
  refine W.eq (g2 := F0 m 10 ls [.int (nI r_2)]) rfl ?_
  refine lv_istore (lv' := [(4, .int (nI r_2)), (3, .int (nI N)), (0, .ref q), (1, .int v), (2, .int w)]) hx hb dL_does_10 hl (by decide) rfl (fun ls hl => ?_)
  refine lv_iload hx hb dL_does_12 (lv_at hl 0 rfl) ?_
  refine lv_iload_n hx hb dL_does_14 rfl (lv_at hl 4 rfl) ?_
  refine lv_iconst (v := 4) hx hb dL_does_15 (by decide) ?_
  refine lv_ishr hx hb dL_does_16 ?_
  obtain ⟨z_3, hz_3⟩ : ∃ z : Int32, z = w >>> (4 &&& 31) := ⟨_, rfl⟩
  refine pq_top z_3 hz_3.symm ?_
  refine lv_iload_n hx hb dL_does_17 rfl (lv_at hl 1 rfl) ?_
  refine lv_iload hx hb dL_does_18 (lv_at hl 0 rfl) ?_
  refine lv_isub hx hb dL_does_20 ?_
  refine pq_top (nI (N - r_2)) (pk_sub (by omega)) ?_
  refine pq_callS (wr := (ppW q h a0 a1 a2 a3 a4 a5 g b0 b1 cI fi la B G pr)) (own := RL) (nL := 8) [] [0, 1, 2, 3, 4, 5, 6, 7, 8, 9, 10] [.int z_3, .int (nI (N - r_2))] (mL_low l D cI z_3 (n := (N - r_2)) (by omega) (by omega)) ⟨hx, hb, hml, hown, hts⟩ (va_cwS 2 hts gL_does_L_low rfl rfl rfl (by decide +kernel) ⟨by dsimp only [pq_R]; omega, by dsimp only [pq_R]; omega⟩) pq_bl0 (fun _ _ _ => trivial) hK hP hD hS hA rfl (by decide) rfl (by decide) (by decide) rfl hl.1 rfl (Nat.le_of_ble_eq_true rfl) dL_does_21 ⟨by dsimp only [pq_R]; omega, by dsimp only [pq_R]; omega⟩ (fun v w1 H locs hq hP hD hS hz => ?_)
  obtain ⟨r_4, hr_4, rfl, rfl⟩ := hq
  have hP : va_P D vwCl (ppW q h a0 a1 a2 a3 a4 a5 g b0 b1 cI fi la B G pr) H := by rw [List.append_nil] at hP; exact hP
  have hD : va_D A (ppW q h a0 a1 a2 a3 a4 a5 g b0 b1 cI fi la B G pr) := by rw [List.append_nil] at hD; exact hD
  refine W.eq (g2 := F0 m 24 ls [.int (nI r_4), .int (nI r_2)]) rfl ?_
  refine lv_iadd hx hb dL_does_24 ?_
  refine pq_top (nI (r_2 + r_4)) (nI_add _ _) ?_
  refine lv_istore (lv' := [(5, .int (nI (r_2 + r_4))), (4, .int (nI r_2)), (3, .int (nI N)), (0, .ref q), (1, .int v), (2, .int w)]) hx hb dL_does_25 hl (by decide) rfl (fun ls hl => ?_)
  refine lv_iload_n hx hb dL_does_27 rfl (lv_at hl 4 rfl) ?_
  refine lv_bipush (v := 15) hx hb dL_does_28 (by decide) ?_
  refine lv_iand hx hb dL_does_30 ?_
  obtain ⟨j, hj, hje⟩ := pk_andE v (m := 15) 4 (by decide)
  refine pq_top (nI j) hje ?_
  have K160 : ∀ (H : Heap) (locs : List Loc) (ls : Array Slot), va_P D vwCl (ppW q h a0 a1 a2 a3 a4 a5 g b0 b1 cI fi la B G pr) H → va_D A (ppW q h a0 a1 a2 a3 a4 a5 g b0 b1 cI fi la B G pr) → va_S A s.heap H locs → lv_has ls 8 [(5, .int (nI (r_2 + r_4))), (4, .int (nI r_2)), (3, .int (nI N)), (0, .ref q), (1, .int v), (2, .int w)] → W p l ev (pq_R 15 364 0 0) s m args below meth cd H locs 0 0 Q (F0 m 160 ls []) := by
    intro H locs ls hP hD hS hl
    refine lv_aload_n hx hb dL_does_160 rfl (lv_at hl 3 rfl) ?_
    refine lv_iload hx hb dL_does_161 (lv_at hl 1 rfl) ?_
    refine lv_iconst (v := 1) hx hb dL_does_163 (by decide) ?_
    refine lv_iload_n hx hb dL_does_164 rfl (lv_at hl 4 rfl) ?_
    refine lv_iconst (v := 4) hx hb dL_does_165 (by decide) ?_
    refine lv_ishr hx hb dL_does_166 ?_
    obtain ⟨z_5, hz_5⟩ : ∃ z : Int32, z = v >>> (4 &&& 31) := ⟨_, rfl⟩
    refine pq_top z_5 hz_5.symm ?_
    refine lv_iload_n hx hb dL_does_167 rfl (lv_at hl 4 rfl) ?_
    refine lv_bipush (v := 64) hx hb dL_does_168 (by decide) ?_
    refine lv_iand hx hb dL_does_170 ?_
    refine lv_if_ne (tgt := 180) hx hb dL_does_171 (by decide) (fun c_6 => ?_) (fun c_6 => ?_)
    · refine lv_bipush (v := 90) hx hb dL_does_180 (by decide) ?_
      refine pq_callS (wr := (ppW q h a0 a1 a2 a3 a4 a5 g b0 b1 cI fi la B G pr)) (own := RL) (nL := 8) [] [0, 1, 2, 3, 4, 5, 6, 7, 8, 9, 10] [.int z_5, .int 90] (mL_low l D cI z_5 (n := 90) (by omega) (by omega)) ⟨hx, hb, hml, hown, hts⟩ (va_cwS 2 hts gL_does_L_low rfl rfl rfl (by decide +kernel) ⟨by dsimp only [pq_R]; omega, by dsimp only [pq_R]; omega⟩) pq_bl0 (fun _ _ _ => trivial) hK hP hD hS hA rfl (by decide) rfl (by decide) (by decide) rfl hl.1 rfl (Nat.le_of_ble_eq_true rfl) dL_does_182 ⟨by dsimp only [pq_R]; omega, by dsimp only [pq_R]; omega⟩ (fun v w1 H locs hq hP hD hS hz => ?_)
      obtain ⟨r_7, hr_7, rfl, rfl⟩ := hq
      have hP : va_P D vwCl (ppW q h a0 a1 a2 a3 a4 a5 g b0 b1 cI fi la B G pr) H := by rw [List.append_nil] at hP; exact hP
      have hD : va_D A (ppW q h a0 a1 a2 a3 a4 a5 g b0 b1 cI fi la B G pr) := by rw [List.append_nil] at hD; exact hD
      refine W.eq (g2 := F0 m 185 ls [.int (nI r_7), .int 1, .int (nI r_2), .ref q]) rfl ?_
      refine lv_iadd hx hb dL_does_185 ?_
      refine pq_top (nI (1 + r_7)) (nI_add 1 _) ?_
      refine lv_iload_n hx hb dL_does_186 rfl (lv_at hl 4 rfl) ?_
      refine lv_bipush (v := 7) hx hb dL_does_187 (by decide) ?_
      refine lv_ishr hx hb dL_does_189 ?_
      obtain ⟨z_8, hz_8⟩ : ∃ z : Int32, z = v >>> (7 &&& 31) := ⟨_, rfl⟩
      refine pq_top z_8 hz_8.symm ?_
      refine lv_iload_n hx hb dL_does_190 rfl (lv_at hl 2 rfl) ?_
      refine pq_callS (wr := (ppW q h a0 a1 a2 a3 a4 a5 g b0 b1 cI fi la B G pr)) (own := RL) (nL := 8) [] [0, 1, 2, 3, 4, 5, 6, 7, 8, 9, 10] [.int z_8, .int (nI N)] (mL_low l D cI z_8 (n := N) (by omega) (by omega)) ⟨hx, hb, hml, hown, hts⟩ (va_cwS 2 hts gL_does_L_low rfl rfl rfl (by decide +kernel) ⟨by dsimp only [pq_R]; omega, by dsimp only [pq_R]; omega⟩) pq_bl0 (fun _ _ _ => trivial) hK hP hD hS hA rfl (by decide) rfl (by decide) (by decide) rfl hl.1 rfl (Nat.le_of_ble_eq_true rfl) dL_does_191 ⟨by dsimp only [pq_R]; omega, by dsimp only [pq_R]; omega⟩ (fun v w1 H locs hq hP hD hS hz => ?_)
      obtain ⟨r_9, hr_9, rfl, rfl⟩ := hq
      have hP : va_P D vwCl (ppW q h a0 a1 a2 a3 a4 a5 g b0 b1 cI fi la B G pr) H := by rw [List.append_nil] at hP; exact hP
      have hD : va_D A (ppW q h a0 a1 a2 a3 a4 a5 g b0 b1 cI fi la B G pr) := by rw [List.append_nil] at hD; exact hD
      refine W.eq (g2 := F0 m 194 ls [.int (nI r_9), .int (nI (1 + r_7)), .int (nI r_2), .ref q]) rfl ?_
      refine pq_callS (wr := []) (own := RL) (nL := 8) [0, 1, 2, 3, 4, 5, 6, 7, 8, 9, 10] [] [.ref q, .int (nI r_2), .int (nI (1 + r_7)), .int (nI r_9)] (mL_isPiled l D cI q h a0 a1 a2 a3 a4 a5 g b0 b1 I (by omega) (kx := r_2) (w0 := (1 + r_7)) (ko := r_9) (by omega) (by omega) (by omega) (by omega)) ⟨hx, hb, hml, hown, hts⟩ (va_cwS 4 hts gL_does_L_isPiled rfl rfl rfl (by decide +kernel) ⟨by dsimp only [pq_R]; omega, by dsimp only [pq_R]; omega⟩) pq_blE (hE.call hD hS hA [0, 1, 2, 3, 4, 5, 6, 7, 8, 9, 10] rfl) hK hP hD hS hA rfl (by decide) rfl (by decide) (by decide) rfl hl.1 rfl (Nat.le_of_ble_eq_true rfl) dL_does_194 ⟨by dsimp only [pq_R]; omega, by dsimp only [pq_R]; omega⟩ (fun v w1 H locs hq hP hD hS hz => ?_)
      obtain ⟨rfl, N_10, hs_10, cs_10, vis_10, tot_10, cal_10, fi_10, la_10, B_10, G_10, pr_10, rfl, I_10, ht_10⟩ := hq
      have hP : va_P D vwCl (ppW q h a0 a1 a2 a3 a4 a5 g b0 b1 cI fi_10 la_10 B_10 G_10 pr_10) H := hP
      have hD : va_D A (ppW q h a0 a1 a2 a3 a4 a5 g b0 b1 cI fi_10 la_10 B_10 G_10 pr_10) := hD
      refine W.eq (g2 := F0 m 197 ls [.int 1]) rfl ?_
      exact pq_zret hQ hx hb hr hlocks hK hS hP hD dL_does_197 (by omega) (by omega) (by decide) (⟨rfl, _, _, _, _, _, _, _, _, _, _, _, rfl, I_10, by omega⟩)
    · refine lv_sipush (v := 1000) hx hb dL_does_174 (by decide) ?_
      refine lv_goto (tgt := 182) hx hb dL_does_177 (by decide) ?_
      refine pq_callS (wr := (ppW q h a0 a1 a2 a3 a4 a5 g b0 b1 cI fi la B G pr)) (own := RL) (nL := 8) [] [0, 1, 2, 3, 4, 5, 6, 7, 8, 9, 10] [.int z_5, .int 1000] (mL_low l D cI z_5 (n := 1000) (by omega) (by omega)) ⟨hx, hb, hml, hown, hts⟩ (va_cwS 2 hts gL_does_L_low rfl rfl rfl (by decide +kernel) ⟨by dsimp only [pq_R]; omega, by dsimp only [pq_R]; omega⟩) pq_bl0 (fun _ _ _ => trivial) hK hP hD hS hA rfl (by decide) rfl (by decide) (by decide) rfl hl.1 rfl (Nat.le_of_ble_eq_true rfl) dL_does_182 ⟨by dsimp only [pq_R]; omega, by dsimp only [pq_R]; omega⟩ (fun v w1 H locs hq hP hD hS hz => ?_)
      obtain ⟨r_11, hr_11, rfl, rfl⟩ := hq
      have hP : va_P D vwCl (ppW q h a0 a1 a2 a3 a4 a5 g b0 b1 cI fi la B G pr) H := by rw [List.append_nil] at hP; exact hP
      have hD : va_D A (ppW q h a0 a1 a2 a3 a4 a5 g b0 b1 cI fi la B G pr) := by rw [List.append_nil] at hD; exact hD
      refine W.eq (g2 := F0 m 185 ls [.int (nI r_11), .int 1, .int (nI r_2), .ref q]) rfl ?_
      refine lv_iadd hx hb dL_does_185 ?_
      refine pq_top (nI (1 + r_11)) (nI_add 1 _) ?_
      refine lv_iload_n hx hb dL_does_186 rfl (lv_at hl 4 rfl) ?_
      refine lv_bipush (v := 7) hx hb dL_does_187 (by decide) ?_
      refine lv_ishr hx hb dL_does_189 ?_
      obtain ⟨z_12, hz_12⟩ : ∃ z : Int32, z = v >>> (7 &&& 31) := ⟨_, rfl⟩
      refine pq_top z_12 hz_12.symm ?_
      refine lv_iload_n hx hb dL_does_190 rfl (lv_at hl 2 rfl) ?_
      refine pq_callS (wr := (ppW q h a0 a1 a2 a3 a4 a5 g b0 b1 cI fi la B G pr)) (own := RL) (nL := 8) [] [0, 1, 2, 3, 4, 5, 6, 7, 8, 9, 10] [.int z_12, .int (nI N)] (mL_low l D cI z_12 (n := N) (by omega) (by omega)) ⟨hx, hb, hml, hown, hts⟩ (va_cwS 2 hts gL_does_L_low rfl rfl rfl (by decide +kernel) ⟨by dsimp only [pq_R]; omega, by dsimp only [pq_R]; omega⟩) pq_bl0 (fun _ _ _ => trivial) hK hP hD hS hA rfl (by decide) rfl (by decide) (by decide) rfl hl.1 rfl (Nat.le_of_ble_eq_true rfl) dL_does_191 ⟨by dsimp only [pq_R]; omega, by dsimp only [pq_R]; omega⟩ (fun v w1 H locs hq hP hD hS hz => ?_)
      obtain ⟨r_13, hr_13, rfl, rfl⟩ := hq
      have hP : va_P D vwCl (ppW q h a0 a1 a2 a3 a4 a5 g b0 b1 cI fi la B G pr) H := by rw [List.append_nil] at hP; exact hP
      have hD : va_D A (ppW q h a0 a1 a2 a3 a4 a5 g b0 b1 cI fi la B G pr) := by rw [List.append_nil] at hD; exact hD
      refine W.eq (g2 := F0 m 194 ls [.int (nI r_13), .int (nI (1 + r_11)), .int (nI r_2), .ref q]) rfl ?_
      refine pq_callS (wr := []) (own := RL) (nL := 8) [0, 1, 2, 3, 4, 5, 6, 7, 8, 9, 10] [] [.ref q, .int (nI r_2), .int (nI (1 + r_11)), .int (nI r_13)] (mL_isPiled l D cI q h a0 a1 a2 a3 a4 a5 g b0 b1 I (by omega) (kx := r_2) (w0 := (1 + r_11)) (ko := r_13) (by omega) (by omega) (by omega) (by omega)) ⟨hx, hb, hml, hown, hts⟩ (va_cwS 4 hts gL_does_L_isPiled rfl rfl rfl (by decide +kernel) ⟨by dsimp only [pq_R]; omega, by dsimp only [pq_R]; omega⟩) pq_blE (hE.call hD hS hA [0, 1, 2, 3, 4, 5, 6, 7, 8, 9, 10] rfl) hK hP hD hS hA rfl (by decide) rfl (by decide) (by decide) rfl hl.1 rfl (Nat.le_of_ble_eq_true rfl) dL_does_194 ⟨by dsimp only [pq_R]; omega, by dsimp only [pq_R]; omega⟩ (fun v w1 H locs hq hP hD hS hz => ?_)
      obtain ⟨rfl, N_14, hs_14, cs_14, vis_14, tot_14, cal_14, fi_14, la_14, B_14, G_14, pr_14, rfl, I_14, ht_14⟩ := hq
      have hP : va_P D vwCl (ppW q h a0 a1 a2 a3 a4 a5 g b0 b1 cI fi_14 la_14 B_14 G_14 pr_14) H := hP
      have hD : va_D A (ppW q h a0 a1 a2 a3 a4 a5 g b0 b1 cI fi_14 la_14 B_14 G_14 pr_14) := hD
      refine W.eq (g2 := F0 m 197 ls [.int 1]) rfl ?_
      exact pq_zret hQ hx hb hr hlocks hK hS hP hD dL_does_197 (by omega) (by omega) (by decide) (⟨rfl, _, _, _, _, _, _, _, _, _, _, _, rfl, I_14, by omega⟩)
  rcases (show j = 0 ∨ j = 1 ∨ j = 2 ∨ j = 3 ∨ j = 4 ∨ j = 5 ∨ j = 6 ∨ 7 ≤ j by omega) with rfl | rfl | rfl | rfl | rfl | rfl | rfl | hj7
  · refine lv_tableIn (off := 41) (tgt := 72) hx hb dL_does_31 (by decide +kernel) (by decide +kernel) (by decide +kernel) (by decide) ?_
    refine lv_iconst (v := 1) hx hb dL_does_72 (by decide) ?_
    refine lv_iload_n hx hb dL_does_73 rfl (lv_at hl 5 rfl) ?_
    refine lv_bipush (v := 64) hx hb dL_does_74 (by decide) ?_
    refine pq_callS (wr := (ppW q h a0 a1 a2 a3 a4 a5 g b0 b1 cI fi la B G pr)) (own := RL) (nL := 8) [] [0, 1, 2, 3, 4, 5, 6, 7, 8, 9, 10] [.int w, .int 64] (mL_low l D cI w (n := 64) (by omega) (by omega)) ⟨hx, hb, hml, hown, hts⟩ (va_cwS 2 hts gL_does_L_low rfl rfl rfl (by decide +kernel) ⟨by dsimp only [pq_R]; omega, by dsimp only [pq_R]; omega⟩) pq_bl0 (fun _ _ _ => trivial) hK hP hD hS hA rfl (by decide) rfl (by decide) (by decide) rfl hl.1 rfl (Nat.le_of_ble_eq_true rfl) dL_does_76 ⟨by dsimp only [pq_R]; omega, by dsimp only [pq_R]; omega⟩ (fun v w1 H locs hq hP hD hS hz => ?_)
    obtain ⟨r_15, hr_15, rfl, rfl⟩ := hq
    have hP : va_P D vwCl (ppW q h a0 a1 a2 a3 a4 a5 g b0 b1 cI fi la B G pr) H := by rw [List.append_nil] at hP; exact hP
    have hD : va_D A (ppW q h a0 a1 a2 a3 a4 a5 g b0 b1 cI fi la B G pr) := by rw [List.append_nil] at hD; exact hD
    refine W.eq (g2 := F0 m 79 ls [.int (nI r_15), .int 1]) rfl ?_
    refine lv_iadd hx hb dL_does_79 ?_
    refine pq_top (nI (1 + r_15)) (nI_add 1 _) ?_
    refine lv_istore (lv' := [(6, .int (nI (1 + r_15))), (5, .int (nI (r_2 + r_4))), (4, .int (nI r_2)), (3, .int (nI N)), (0, .ref q), (1, .int v), (2, .int w)]) hx hb dL_does_80 hl (by decide) rfl (fun ls hl => ?_)
    refine lv_iload_n hx hb dL_does_82 rfl (lv_at hl 6 rfl) ?_
    refine lv_bipush (v := 6) hx hb dL_does_83 (by decide) ?_
    refine lv_ishr hx hb dL_does_85 ?_
    obtain ⟨z_16, hz_16⟩ : ∃ z : Int32, z = w >>> (6 &&& 31) := ⟨_, rfl⟩
    refine pq_top z_16 hz_16.symm ?_
    refine lv_sipush (v := 1001) hx hb dL_does_86 (by decide) ?_
    refine pq_callS (wr := (ppW q h a0 a1 a2 a3 a4 a5 g b0 b1 cI fi la B G pr)) (own := RL) (nL := 8) [] [0, 1, 2, 3, 4, 5, 6, 7, 8, 9, 10] [.int z_16, .int 1001] (mL_low l D cI z_16 (n := 1001) (by omega) (by omega)) ⟨hx, hb, hml, hown, hts⟩ (va_cwS 2 hts gL_does_L_low rfl rfl rfl (by decide +kernel) ⟨by dsimp only [pq_R]; omega, by dsimp only [pq_R]; omega⟩) pq_bl0 (fun _ _ _ => trivial) hK hP hD hS hA rfl (by decide) rfl (by decide) (by decide) rfl hl.1 rfl (Nat.le_of_ble_eq_true rfl) dL_does_89 ⟨by dsimp only [pq_R]; omega, by dsimp only [pq_R]; omega⟩ (fun v w1 H locs hq hP hD hS hz => ?_)
    obtain ⟨r_17, hr_17, rfl, rfl⟩ := hq
    have hP : va_P D vwCl (ppW q h a0 a1 a2 a3 a4 a5 g b0 b1 cI fi la B G pr) H := by rw [List.append_nil] at hP; exact hP
    have hD : va_D A (ppW q h a0 a1 a2 a3 a4 a5 g b0 b1 cI fi la B G pr) := by rw [List.append_nil] at hD; exact hD
    refine W.eq (g2 := F0 m 92 ls [.int (nI r_17)]) rfl ?_
    refine lv_istore (lv' := [(7, .int (nI r_17)), (6, .int (nI (1 + r_15))), (5, .int (nI (r_2 + r_4))), (4, .int (nI r_2)), (3, .int (nI N)), (0, .ref q), (1, .int v), (2, .int w)]) hx hb dL_does_92 hl (by decide) rfl (fun ls hl => ?_)
    refine lv_iload_n hx hb dL_does_94 rfl (lv_at hl 6 rfl) ?_
    refine lv_bipush (v := 48) hx hb dL_does_95 (by decide) ?_
    refine lv_iand hx hb dL_does_97 ?_
    refine lv_if_gt (tgt := 154) hx hb dL_does_98 (by decide) (fun c_18 => ?_) (fun c_18 => ?_)
    · refine lv_iconst (v := 1) hx hb dL_does_154 (by decide) ?_
      refine lv_goto (tgt := 159) hx hb dL_does_155 (by decide) ?_
      exact pq_zret hQ hx hb hr hlocks hK hS hP hD dL_does_159 (by omega) (by omega) (by decide) (⟨rfl, _, _, _, _, _, _, _, _, _, _, _, rfl, I, by omega⟩)
    · refine lv_aload_n hx hb dL_does_101 rfl (lv_at hl 5 rfl) ?_
      refine lv_iload hx hb dL_does_102 (lv_at hl 1 rfl) ?_
      refine lv_iload hx hb dL_does_104 (lv_at hl 0 rfl) ?_
      refine pq_callV (wr := []) (own := RL) (nL := 8) (q0 := 0) (ci := 2) [0, 1, 2, 3, 4, 5, 6, 7, 8, 9, 10] [] [.int (nI (1 + r_15)), .int (nI r_17)] (f_layOut l D cI q h a0 a1 a2 a3 a4 a5 g b0 b1 I.2.2.2.2.2.2.2.2.1 I.2.1 (n0 := (1 + r_15)) (v0 := r_17) (by omega) (by omega) (by omega)) ⟨hx, hb, hml, hown, hts⟩ (cwV 2 hts gL_does_X2_layOut rfl rfl rfl (by decide +kernel) ⟨by dsimp only [pq_R]; omega, by dsimp only [pq_R]; omega⟩) pq_blE (hE.call hD hS hA [0, 1, 2, 3, 4, 5, 6, 7, 8, 9, 10] rfl) hK hP hD hS hA rfl (by decide) rfl (by decide) (by decide) rfl rfl rfl rfl hl.1 rfl (Nat.le_of_ble_eq_true rfl) dL_does_106 ⟨by dsimp only [pq_R]; omega, by dsimp only [pq_R]; omega⟩ (fun v w1 H locs hq hP hD hS hz => ?_)
      obtain ⟨fi_19, la_19, B_19, G_19, rfl, rfl, lz_19, I_19⟩ := hq
      have hP : va_P D vwCl (ppW q h a0 a1 a2 a3 a4 a5 g b0 b1 cI fi_19 la_19 B_19 G_19 0) H := hP
      have hD : va_D A (ppW q h a0 a1 a2 a3 a4 a5 g b0 b1 cI fi_19 la_19 B_19 G_19 0) := hD
      refine W.eq (g2 := F0 m 109 ls [.int (nI ((1 + r_15) * r_17))]) rfl ?_
      refine lv_iload hx hb dL_does_109 (lv_at hl 1 rfl) ?_
      refine lv_iload hx hb dL_does_111 (lv_at hl 0 rfl) ?_
      refine lv_imul hx hb dL_does_113 ?_
      refine pq_top (nI ((1 + r_15) * r_17)) (pk_mul _ _) ?_
      refine lv_icmp_ne (tgt := 158) hx hb dL_does_114 (by decide) (fun c9 => absurd rfl c9) (fun _ => ?_)
      refine lv_aload_n hx hb dL_does_117 rfl (lv_at hl 5 rfl) ?_
      refine pq_callV (wr := []) (own := RL) (nL := 8) (q0 := 0) (ci := 2) [0, 1, 2, 3, 4, 5, 6, 7, 8, 9, 10] [] [] (f_columns l D cI q h a0 a1 a2 a3 a4 a5 g b0 b1 I_19) ⟨hx, hb, hml, hown, hts⟩ (cwV 0 hts gL_does_X2_columns rfl rfl rfl (by decide +kernel) ⟨by dsimp only [pq_R]; omega, by dsimp only [pq_R]; omega⟩) pq_blE (hE.call hD hS hA [0, 1, 2, 3, 4, 5, 6, 7, 8, 9, 10] rfl) hK hP hD hS hA rfl (by decide) rfl (by decide) (by decide) rfl rfl rfl rfl hl.1 rfl (Nat.le_of_ble_eq_true rfl) dL_does_118 ⟨by dsimp only [pq_R]; omega, by dsimp only [pq_R]; omega⟩ (fun v w1 H locs hq hP hD hS hz => ?_)
      obtain ⟨rfl, rfl⟩ := hq
      have hP : va_P D vwCl (ppW q h a0 a1 a2 a3 a4 a5 g b0 b1 cI fi_19 la_19 B_19 G_19 0) H := hP
      have hD : va_D A (ppW q h a0 a1 a2 a3 a4 a5 g b0 b1 cI fi_19 la_19 B_19 G_19 0) := hD
      refine W.eq (g2 := F0 m 121 ls [.int (nI (1 + r_15))]) rfl ?_
      refine lv_iload hx hb dL_does_121 (lv_at hl 1 rfl) ?_
      refine lv_icmp_ne (tgt := 158) hx hb dL_does_123 (by decide) (fun c9 => absurd rfl c9) (fun _ => ?_)
      refine lv_aload_n hx hb dL_does_126 rfl (lv_at hl 5 rfl) ?_
      refine pq_callV (wr := []) (own := RL) (nL := 8) (q0 := 0) (ci := 2) [0, 1, 2, 3, 4, 5, 6, 7, 8, 9, 10] [] [] (f_visits l D cI q h a0 a1 a2 a3 a4 a5 g b0 b1 I_19) ⟨hx, hb, hml, hown, hts⟩ (cwV 0 hts gL_does_X2_visits rfl rfl rfl (by decide +kernel) ⟨by dsimp only [pq_R]; omega, by dsimp only [pq_R]; omega⟩) pq_blE (hE.call hD hS hA [0, 1, 2, 3, 4, 5, 6, 7, 8, 9, 10] rfl) hK hP hD hS hA rfl (by decide) rfl (by decide) (by decide) rfl rfl rfl rfl hl.1 rfl (Nat.le_of_ble_eq_true rfl) dL_does_127 ⟨by dsimp only [pq_R]; omega, by dsimp only [pq_R]; omega⟩ (fun v w1 H locs hq hP hD hS hz => ?_)
      obtain ⟨rfl, rfl⟩ := hq
      have hP : va_P D vwCl (ppW q h a0 a1 a2 a3 a4 a5 g b0 b1 cI fi_19 la_19 B_19 G_19 0) H := hP
      have hD : va_D A (ppW q h a0 a1 a2 a3 a4 a5 g b0 b1 cI fi_19 la_19 B_19 G_19 0) := hD
      refine W.eq (g2 := F0 m 130 ls [.int (nI 0)]) rfl ?_
      refine lv_if_ne (tgt := 158) hx hb dL_does_130 (by decide) (fun c9 => absurd ((nI_eq (a := 0) (b := 0) (by omega) (by omega)).mpr (by omega)) c9) (fun _ => ?_)
      refine lv_aload_n hx hb dL_does_133 rfl (lv_at hl 5 rfl) ?_
      refine pq_callV (wr := []) (own := RL) (nL := 8) (q0 := 0) (ci := 2) [0, 1, 2, 3, 4, 5, 6, 7, 8, 9, 10] [] [] (f_allVisits l D cI q h a0 a1 a2 a3 a4 a5 g b0 b1 I_19) ⟨hx, hb, hml, hown, hts⟩ (cwV 0 hts gL_does_X2_allVisits rfl rfl rfl (by decide +kernel) ⟨by dsimp only [pq_R]; omega, by dsimp only [pq_R]; omega⟩) pq_blE (hE.call hD hS hA [0, 1, 2, 3, 4, 5, 6, 7, 8, 9, 10] rfl) hK hP hD hS hA rfl (by decide) rfl (by decide) (by decide) rfl rfl rfl rfl hl.1 rfl (Nat.le_of_ble_eq_true rfl) dL_does_134 ⟨by dsimp only [pq_R]; omega, by dsimp only [pq_R]; omega⟩ (fun v w1 H locs hq hP hD hS hz => ?_)
      obtain ⟨rfl, rfl⟩ := hq
      have hP : va_P D vwCl (ppW q h a0 a1 a2 a3 a4 a5 g b0 b1 cI fi_19 la_19 B_19 G_19 0) H := hP
      have hD : va_D A (ppW q h a0 a1 a2 a3 a4 a5 g b0 b1 cI fi_19 la_19 B_19 G_19 0) := hD
      refine W.eq (g2 := F0 m 137 ls [.int (nI 0)]) rfl ?_
      refine lv_if_ne (tgt := 158) hx hb dL_does_137 (by decide) (fun c9 => absurd ((nI_eq (a := 0) (b := 0) (by omega) (by omega)).mpr (by omega)) c9) (fun _ => ?_)
      refine lv_aload_n hx hb dL_does_140 rfl (lv_at hl 5 rfl) ?_
      refine pq_callV (wr := []) (own := RL) (nL := 8) (q0 := 0) (ci := 2) [0, 1, 2, 3, 4, 5, 6, 7, 8, 9, 10] [] [] (f_lagging0 l D cI q h a0 a1 a2 a3 a4 a5 g b0 b1 I_19 lz_19) ⟨hx, hb, hml, hown, hts⟩ (cwV 0 hts gL_does_X2_lagging rfl rfl rfl (by decide +kernel) ⟨by dsimp only [pq_R]; omega, by dsimp only [pq_R]; omega⟩) pq_blE (hE.call hD hS hA [0, 1, 2, 3, 4, 5, 6, 7, 8, 9, 10] rfl) hK hP hD hS hA rfl (by decide) rfl (by decide) (by decide) rfl rfl rfl rfl hl.1 rfl (Nat.le_of_ble_eq_true rfl) dL_does_141 ⟨by dsimp only [pq_R]; omega, by dsimp only [pq_R]; omega⟩ (fun v w1 H locs hq hP hD hS hz => ?_)
      obtain ⟨rfl, rfl⟩ := hq
      have hP : va_P D vwCl (ppW q h a0 a1 a2 a3 a4 a5 g b0 b1 cI fi_19 la_19 B_19 G_19 0) H := hP
      have hD : va_D A (ppW q h a0 a1 a2 a3 a4 a5 g b0 b1 cI fi_19 la_19 B_19 G_19 0) := hD
      refine W.eq (g2 := F0 m 144 ls [.int 0]) rfl ?_
      refine lv_if_ne (tgt := 158) hx hb dL_does_144 (by decide) (fun c9 => absurd c9 (by decide)) (fun _ => ?_)
      refine lv_aload_n hx hb dL_does_147 rfl (lv_at hl 5 rfl) ?_
      refine pq_callV (wr := []) (own := RL) (nL := 8) (q0 := 0) (ci := 2) [0, 1, 2, 3, 4, 5, 6, 7, 8, 9, 10] [] [] (f_pressedAway l D cI q h a0 a1 a2 a3 a4 a5 g b0 b1 I_19) ⟨hx, hb, hml, hown, hts⟩ (cwV 0 hts gL_does_X2_pressedAway rfl rfl rfl (by decide +kernel) ⟨by dsimp only [pq_R]; omega, by dsimp only [pq_R]; omega⟩) pq_blE (hE.call hD hS hA [0, 1, 2, 3, 4, 5, 6, 7, 8, 9, 10] rfl) hK hP hD hS hA rfl (by decide) rfl (by decide) (by decide) rfl rfl rfl rfl hl.1 rfl (Nat.le_of_ble_eq_true rfl) dL_does_148 ⟨by dsimp only [pq_R]; omega, by dsimp only [pq_R]; omega⟩ (fun v w1 H locs hq hP hD hS hz => ?_)
      obtain ⟨rfl, rfl⟩ := hq
      have hP : va_P D vwCl (ppW q h a0 a1 a2 a3 a4 a5 g b0 b1 cI fi_19 la_19 B_19 G_19 0) H := hP
      have hD : va_D A (ppW q h a0 a1 a2 a3 a4 a5 g b0 b1 cI fi_19 la_19 B_19 G_19 0) := hD
      refine W.eq (g2 := F0 m 151 ls [.int 0]) rfl ?_
      refine lv_if_ne (tgt := 158) hx hb dL_does_151 (by decide) (fun c9 => absurd c9 (by decide)) (fun _ => ?_)
      refine lv_iconst (v := 1) hx hb dL_does_154 (by decide) ?_
      refine lv_goto (tgt := 159) hx hb dL_does_155 (by decide) ?_
      exact pq_zret hQ hx hb hr hlocks hK hS hP hD dL_does_159 (by omega) (by omega) (by decide) (⟨rfl, _, _, _, _, _, _, _, _, _, _, _, rfl, I_19, by omega⟩)
  · refine lv_tableIn (off := 129) (tgt := 160) hx hb dL_does_31 (by decide +kernel) (by decide +kernel) (by decide +kernel) (by decide) ?_
    exact K160 H locs ls hP hD hS hl
  · refine lv_tableIn (off := 129) (tgt := 160) hx hb dL_does_31 (by decide +kernel) (by decide +kernel) (by decide +kernel) (by decide) ?_
    exact K160 H locs ls hP hD hS hl
  · refine lv_tableIn (off := 129) (tgt := 160) hx hb dL_does_31 (by decide +kernel) (by decide +kernel) (by decide +kernel) (by decide) ?_
    exact K160 H locs ls hP hD hS hl
  · refine lv_tableIn (off := 129) (tgt := 160) hx hb dL_does_31 (by decide +kernel) (by decide +kernel) (by decide +kernel) (by decide) ?_
    exact K160 H locs ls hP hD hS hl
  · refine lv_tableIn (off := 129) (tgt := 160) hx hb dL_does_31 (by decide +kernel) (by decide +kernel) (by decide +kernel) (by decide) ?_
    exact K160 H locs ls hP hD hS hl
  · refine lv_tableIn (off := 167) (tgt := 198) hx hb dL_does_31 (by decide +kernel) (by decide +kernel) (by decide +kernel) (by decide) ?_
    refine lv_aload_n hx hb dL_does_198 rfl (lv_at hl 3 rfl) ?_
    refine lv_iload hx hb dL_does_199 (lv_at hl 1 rfl) ?_
    refine lv_iload hx hb dL_does_201 (lv_at hl 0 rfl) ?_
    refine pq_callS (wr := []) (own := RL) (nL := 8) [0, 1, 2, 3, 4, 5, 6, 7, 8, 9, 10] [] [.ref q, .int (nI r_2), .int (nI (r_2 + r_4))] (mL_isAsked l D cI q h a0 a1 a2 a3 a4 a5 g b0 b1 I (by omega) (kf := r_2) (kt := (r_2 + r_4)) (by omega) (by omega)) ⟨hx, hb, hml, hown, hts⟩ (va_cwS 3 hts gL_does_L_isAsked rfl rfl rfl (by decide +kernel) ⟨by dsimp only [pq_R]; omega, by dsimp only [pq_R]; omega⟩) pq_blE (hE.call hD hS hA [0, 1, 2, 3, 4, 5, 6, 7, 8, 9, 10] rfl) hK hP hD hS hA rfl (by decide) rfl (by decide) (by decide) rfl hl.1 rfl (Nat.le_of_ble_eq_true rfl) dL_does_203 ⟨by dsimp only [pq_R]; omega, by dsimp only [pq_R]; omega⟩ (fun v w1 H locs hq hP hD hS hz => ?_)
    obtain ⟨rfl, N_25, hs_25, cs_25, vis_25, tot_25, cal_25, fi_25, la_25, B_25, G_25, pr_25, rfl, I_25, ht_25⟩ := hq
    have hP : va_P D vwCl (ppW q h a0 a1 a2 a3 a4 a5 g b0 b1 cI fi_25 la_25 B_25 G_25 pr_25) H := hP
    have hD : va_D A (ppW q h a0 a1 a2 a3 a4 a5 g b0 b1 cI fi_25 la_25 B_25 G_25 pr_25) := hD
    refine W.eq (g2 := F0 m 206 ls [.int 1]) rfl ?_
    exact pq_zret hQ hx hb hr hlocks hK hS hP hD dL_does_206 (by omega) (by omega) (by decide) (⟨rfl, _, _, _, _, _, _, _, _, _, _, _, rfl, I_25, by omega⟩)
  · refine lv_tableOut (tgt := 207) hx hb dL_does_31 (Or.inr (by rw [nI_toInt (by omega)]; omega)) (by decide) ?_
    refine lv_aload_n hx hb dL_does_207 rfl (lv_at hl 3 rfl) ?_
    refine lv_iload hx hb dL_does_208 (lv_at hl 1 rfl) ?_
    refine lv_iload hx hb dL_does_210 (lv_at hl 0 rfl) ?_
    refine lv_iload_n hx hb dL_does_212 rfl (lv_at hl 4 rfl) ?_
    refine lv_iconst (v := 4) hx hb dL_does_213 (by decide) ?_
    refine lv_ishr hx hb dL_does_214 ?_
    obtain ⟨z_26, hz_26⟩ : ∃ z : Int32, z = v >>> (4 &&& 31) := ⟨_, rfl⟩
    refine pq_top z_26 hz_26.symm ?_
    refine lv_iload_n hx hb dL_does_215 rfl (lv_at hl 4 rfl) ?_
    refine lv_bipush (v := 16) hx hb dL_does_216 (by decide) ?_
    refine lv_iand hx hb dL_does_218 ?_
    refine lv_if_ne (tgt := 228) hx hb dL_does_219 (by decide) (fun c_27 => ?_) (fun c_27 => ?_)
    · refine lv_sipush (v := 300) hx hb dL_does_228 (by decide) ?_
      refine pq_callS (wr := (ppW q h a0 a1 a2 a3 a4 a5 g b0 b1 cI fi la B G pr)) (own := RL) (nL := 8) [] [0, 1, 2, 3, 4, 5, 6, 7, 8, 9, 10] [.int z_26, .int 300] (mL_low l D cI z_26 (n := 300) (by omega) (by omega)) ⟨hx, hb, hml, hown, hts⟩ (va_cwS 2 hts gL_does_L_low rfl rfl rfl (by decide +kernel) ⟨by dsimp only [pq_R]; omega, by dsimp only [pq_R]; omega⟩) pq_bl0 (fun _ _ _ => trivial) hK hP hD hS hA rfl (by decide) rfl (by decide) (by decide) rfl hl.1 rfl (Nat.le_of_ble_eq_true rfl) dL_does_231 ⟨by dsimp only [pq_R]; omega, by dsimp only [pq_R]; omega⟩ (fun v w1 H locs hq hP hD hS hz => ?_)
      obtain ⟨r_28, hr_28, rfl, rfl⟩ := hq
      have hP : va_P D vwCl (ppW q h a0 a1 a2 a3 a4 a5 g b0 b1 cI fi la B G pr) H := by rw [List.append_nil] at hP; exact hP
      have hD : va_D A (ppW q h a0 a1 a2 a3 a4 a5 g b0 b1 cI fi la B G pr) := by rw [List.append_nil] at hD; exact hD
      refine W.eq (g2 := F0 m 234 ls [.int (nI r_28), .int (nI (r_2 + r_4)), .int (nI r_2), .ref q]) rfl ?_
      refine pq_callS (wr := []) (own := RL) (nL := 8) [0, 1, 2, 3, 4, 5, 6, 7, 8, 9, 10] [] [.ref q, .int (nI r_2), .int (nI (r_2 + r_4)), .int (nI r_28)] (mL_isLowered l D cI q h a0 a1 a2 a3 a4 a5 g b0 b1 I (by omega) (kf := r_2) (kt := (r_2 + r_4)) (c0 := r_28) (by omega) (by omega) (by omega)) ⟨hx, hb, hml, hown, hts⟩ (va_cwS 4 hts gL_does_L_isLowered rfl rfl rfl (by decide +kernel) ⟨by dsimp only [pq_R]; omega, by dsimp only [pq_R]; omega⟩) pq_blE (hE.call hD hS hA [0, 1, 2, 3, 4, 5, 6, 7, 8, 9, 10] rfl) hK hP hD hS hA rfl (by decide) rfl (by decide) (by decide) rfl hl.1 rfl (Nat.le_of_ble_eq_true rfl) dL_does_234 ⟨by dsimp only [pq_R]; omega, by dsimp only [pq_R]; omega⟩ (fun v w1 H locs hq hP hD hS hz => ?_)
      obtain ⟨rfl, N_29, hs_29, cs_29, vis_29, tot_29, cal_29, fi_29, la_29, B_29, G_29, pr_29, rfl, I_29, ht_29⟩ := hq
      have hP : va_P D vwCl (ppW q h a0 a1 a2 a3 a4 a5 g b0 b1 cI fi_29 la_29 B_29 G_29 pr_29) H := hP
      have hD : va_D A (ppW q h a0 a1 a2 a3 a4 a5 g b0 b1 cI fi_29 la_29 B_29 G_29 pr_29) := hD
      refine W.eq (g2 := F0 m 237 ls [.int 1]) rfl ?_
      exact pq_zret hQ hx hb hr hlocks hK hS hP hD dL_does_237 (by omega) (by omega) (by decide) (⟨rfl, _, _, _, _, _, _, _, _, _, _, _, rfl, I_29, by omega⟩)
    · refine lv_sipush (v := 1001) hx hb dL_does_222 (by decide) ?_
      refine lv_goto (tgt := 231) hx hb dL_does_225 (by decide) ?_
      refine pq_callS (wr := (ppW q h a0 a1 a2 a3 a4 a5 g b0 b1 cI fi la B G pr)) (own := RL) (nL := 8) [] [0, 1, 2, 3, 4, 5, 6, 7, 8, 9, 10] [.int z_26, .int 1001] (mL_low l D cI z_26 (n := 1001) (by omega) (by omega)) ⟨hx, hb, hml, hown, hts⟩ (va_cwS 2 hts gL_does_L_low rfl rfl rfl (by decide +kernel) ⟨by dsimp only [pq_R]; omega, by dsimp only [pq_R]; omega⟩) pq_bl0 (fun _ _ _ => trivial) hK hP hD hS hA rfl (by decide) rfl (by decide) (by decide) rfl hl.1 rfl (Nat.le_of_ble_eq_true rfl) dL_does_231 ⟨by dsimp only [pq_R]; omega, by dsimp only [pq_R]; omega⟩ (fun v w1 H locs hq hP hD hS hz => ?_)
      obtain ⟨r_30, hr_30, rfl, rfl⟩ := hq
      have hP : va_P D vwCl (ppW q h a0 a1 a2 a3 a4 a5 g b0 b1 cI fi la B G pr) H := by rw [List.append_nil] at hP; exact hP
      have hD : va_D A (ppW q h a0 a1 a2 a3 a4 a5 g b0 b1 cI fi la B G pr) := by rw [List.append_nil] at hD; exact hD
      refine W.eq (g2 := F0 m 234 ls [.int (nI r_30), .int (nI (r_2 + r_4)), .int (nI r_2), .ref q]) rfl ?_
      refine pq_callS (wr := []) (own := RL) (nL := 8) [0, 1, 2, 3, 4, 5, 6, 7, 8, 9, 10] [] [.ref q, .int (nI r_2), .int (nI (r_2 + r_4)), .int (nI r_30)] (mL_isLowered l D cI q h a0 a1 a2 a3 a4 a5 g b0 b1 I (by omega) (kf := r_2) (kt := (r_2 + r_4)) (c0 := r_30) (by omega) (by omega) (by omega)) ⟨hx, hb, hml, hown, hts⟩ (va_cwS 4 hts gL_does_L_isLowered rfl rfl rfl (by decide +kernel) ⟨by dsimp only [pq_R]; omega, by dsimp only [pq_R]; omega⟩) pq_blE (hE.call hD hS hA [0, 1, 2, 3, 4, 5, 6, 7, 8, 9, 10] rfl) hK hP hD hS hA rfl (by decide) rfl (by decide) (by decide) rfl hl.1 rfl (Nat.le_of_ble_eq_true rfl) dL_does_234 ⟨by dsimp only [pq_R]; omega, by dsimp only [pq_R]; omega⟩ (fun v w1 H locs hq hP hD hS hz => ?_)
      obtain ⟨rfl, N_31, hs_31, cs_31, vis_31, tot_31, cal_31, fi_31, la_31, B_31, G_31, pr_31, rfl, I_31, ht_31⟩ := hq
      have hP : va_P D vwCl (ppW q h a0 a1 a2 a3 a4 a5 g b0 b1 cI fi_31 la_31 B_31 G_31 pr_31) H := hP
      have hD : va_D A (ppW q h a0 a1 a2 a3 a4 a5 g b0 b1 cI fi_31 la_31 B_31 G_31 pr_31) := hD
      refine W.eq (g2 := F0 m 237 ls [.int 1]) rfl ?_
      exact pq_zret hQ hx hb hr hlocks hK hS hP hD dL_does_237 (by omega) (by omega) (by decide) (⟨rfl, _, _, _, _, _, _, _, _, _, _, _, rfl, I_31, by omega⟩)

