/-! the law's own methods -/
set_option maxHeartbeats 4000000 in
set_option maxRecDepth 100000 in
theorem mL_low (l : Launch) (D : va_G) (cI : ClassId) (x : Int32) {n : Nat} (hn1 : 1 ≤ n) (hn2 : n < 2 ^ 31) : pq_M l yL_low wsL_low 0 0 0 0 D [(cI, .int)] pq_0 [] [.int x, .int (nI n)] (fun v w1 => ∃ r, r < n ∧ v = some (.int (nI r)) ∧ w1 = []) := by
  refine pq_enter (cc := cL_low) (maxL := 2) (ret := (some .int)) (by decide) rfl (Nat.le_of_ble_eq_true rfl) ?_
  intro p ev s m args below meth cd A ls Q H locs hx hb hr hml hts hown hlocks hnm hK hP hD hS hA hE hl hQ
  have hl : lv_has ls 2 [(0, .int x), (1, .int (nI n))] := hl
  have hP : va_P D vwCl [] H := hP
  have hD : va_D A [] := hD
  refine lv_iload_n hx hb dL_low_0 rfl (lv_at hl 0 rfl) ?_
  refine lv_ldc (v := 2147483647) hx hb hown (hts (.constant RL 7 (2147483647)) (by decide +kernel)) dL_low_1 ?_
  refine lv_iand hx hb dL_low_3 ?_
  have hlt : x.toBitVec.toNat % 2 ^ 31 < 2 ^ 31 := Nat.mod_lt _ (by decide)
  refine pq_top (nI (x.toBitVec.toNat % 2 ^ 31)) (pk_and x 31 (by decide)) ?_
  refine lv_iload_n hx hb dL_low_4 rfl (lv_at hl 1 rfl) ?_
  refine lv_irem hx hb dL_low_5 (fun z => absurd z (nI_ne0 (by omega) (by omega))) ?_
  refine pq_top (nI (x.toBitVec.toNat % 2 ^ 31 % n)) (pk_rem hlt (by omega) (by omega)) ?_
  exact pq_iret hQ hx hb hr hlocks hK hS hP hD dL_low_6 (by omega) (by omega) (⟨_, Nat.mod_lt _ (by omega), rfl, rfl⟩)

/-- the script -/
def pq_Sc (b L : Nat) (xs : Nat → Int32) (A : Nat → Prop) (U : State) : Prop := va_X b L xs U U.heap ∧ b < U.heap.size ∧ ¬ A b
theorem pq_blS (b L : Nat) (xs : Nat → Int32) : pq_Bl (pq_Sc b L xs) := fun _ U g mk a h => ⟨va_X.moved (u := U) (U := U.calling g mk a) (Vm.Alike.refl U.vm) h.1, h.2⟩
theorem pq_Sc.call {b L : Nat} {xs : Nat → Int32} {A : Nat → Prop} {s : State} {H : Heap} {locs : List Loc} (h : pq_Sc b L xs A s) (hS : va_S A s.heap H locs) : ∀ U : State, U.heap = H → s.WarmedH U.vm → pq_Sc b L xs (va_A [] H.size) U := by
  intro U hU hW
  have hb : b < H.size := Nat.lt_of_lt_of_le h.2.1 hS.1
  refine ⟨?_, by rw [hU]; exact hb, ?_⟩
  · rw [hU]
    exact (va_X.moved hW.alike h.1).kept (hS.2.1 b h.2.1 h.2.2)
  · rintro (⟨e, e1, he⟩ | q)
    · exact absurd he (by simp)
    · exact absurd q (Nat.not_le.mpr hb)

set_option maxHeartbeats 4000000 in
set_option maxRecDepth 100000 in
theorem mL_cell (l : Launch) (D : va_G) (cI : ClassId) (b : Nat) {L : Nat} (xs : Nat → Int32) (hL : L < 2 ^ 31) {k : Nat} (hk : k < 2 ^ 30) : pq_M l yL_cell wsL_cell 0 0 0 0 D [(cI, .int)] (pq_Sc b L xs) [] [.ref b, .int (nI k)] (fun v w1 => ∃ x, v = some (.int x) ∧ w1 = []) := by
  refine pq_enter (cc := cL_cell) (maxL := 2) (ret := (some .int)) (by decide) rfl (Nat.le_of_ble_eq_true rfl) ?_
  intro p ev s m args below meth cd A ls Q H locs hx hb hr hml hts hown hlocks hnm hK hP hD hS hA hE hl hQ
  have hl : lv_has ls 2 [(0, .ref b), (1, .int (nI k))] := hl
  have hP : va_P D vwCl [] H := hP
  have hD : va_D A [] := hD
  refine lv_iload_n hx hb dL_cell_0 rfl (lv_at hl 1 rfl) ?_
  refine lv_aload_n hx hb dL_cell_1 rfl (lv_at hl 0 rfl) ?_
  refine va_slen hx hb hE.1 hE.2.1 hE.2.2 hS dL_cell_2 ?_
  refine W.eq (g2 := F0 m 3 ls [.int (nI L), .int (nI k)]) rfl ?_
  rcases Nat.lt_or_ge k L with k_1 | k_1
  · refine lv_icmp_ge (tgt := 12) hx hb dL_cell_3 (by decide) (fun c9 => absurd c9 ((nI_ge (a := k) (b := L) k_1 (by omega)))) (fun _ => ?_)
    refine lv_aload_n hx hb dL_cell_6 rfl (lv_at hl 0 rfl) ?_
    refine lv_iload_n hx hb dL_cell_7 rfl (lv_at hl 1 rfl) ?_
    refine va_sld hx hb hE.1 hE.2.1 hE.2.2 hS (vp_in_nI (n := k) (N := L) (by omega) (by omega)) dL_cell_8 ?_
    refine lv_goto (tgt := 24) hx hb dL_cell_9 (by decide) ?_
    exact pq_iret hQ hx hb hr hlocks hK hS hP hD dL_cell_24 (by omega) (by omega) (⟨_, rfl, rfl⟩)
  · refine lv_icmp_ge (tgt := 12) hx hb dL_cell_3 (by decide) (fun _ => ?_) (fun c9 => absurd ((nI_le (a := L) (b := k) k_1 (by omega))) c9)
    refine lv_sipush (v := 7919) hx hb dL_cell_12 (by decide) ?_
    refine lv_iload_n hx hb dL_cell_15 rfl (lv_at hl 1 rfl) ?_
    refine lv_iconst (v := 3) hx hb dL_cell_16 (by decide) ?_
    refine lv_iadd hx hb dL_cell_17 ?_
    refine pq_top (nI (k + 3)) (nI_add _ 3) ?_
    refine lv_imul hx hb dL_cell_18 ?_
    refine pq_top (nI (7919 * (k + 3))) (pk_mul 7919 _) ?_
    refine lv_iload_n hx hb dL_cell_19 rfl (lv_at hl 1 rfl) ?_
    refine lv_bipush (v := 11) hx hb dL_cell_20 (by decide) ?_
    refine lv_iadd hx hb dL_cell_22 ?_
    refine pq_top (nI (k + 11)) (nI_add _ 11) ?_
    refine lv_imul hx hb dL_cell_23 ?_
    refine pq_top (nI ((7919 * (k + 3)) * (k + 11))) (pk_mul _ _) ?_
    exact pq_iret hQ hx hb hr hlocks hK hS hP hD dL_cell_24 (by omega) (by omega) (⟨_, rfl, rfl⟩)

/-- true, and a state again, with at most tb visits -/
def Lp (q h a0 a1 a2 a3 a4 a5 g b0 b1 : Nat) (cI : ClassId) (tb : Nat) (v : Option Value) (w1 : va_W) : Prop :=
  v = some (.int 1) ∧ ∃ (N : Nat) (hs cs : Nat → Nat) (vis tot cal : Nat) (fi la : Nat → Int32) (B : BK) (G : GK) (pr : Int32), w1 = ppW q h a0 a1 a2 a3 a4 a5 g b0 b1 cI fi la B G pr ∧ J N hs cs vis tot cal fi la B G pr ∧ tot ≤ tb

set_option maxHeartbeats 4000000 in
set_option maxRecDepth 100000 in
theorem mL_isPiled (l : Launch) (D : va_G) (cI : ClassId) (q h a0 a1 a2 a3 a4 a5 g b0 b1 : Nat) {N : Nat} {hs cs : Nat → Nat} {vis tot cal : Nat} {fi la : Nat → Int32} {B : BK} {G : GK} {pr : Int32} (I : J N hs cs vis tot cal fi la B G pr) (ht : tot ≤ 100000) {kx w0 ko : Nat} (hkx : kx < N) (hw1 : 1 ≤ w0) (hw2 : w0 ≤ 1000) (hko : ko < N) : pq_M l yL_isPiled wsL_isPiled 14 325 0 0 D [(cI, .int)] pq_Ev (ppW q h a0 a1 a2 a3 a4 a5 g b0 b1 cI fi la B G pr) [.ref q, .int (nI kx), .int (nI w0), .int (nI ko)] (Lp q h a0 a1 a2 a3 a4 a5 g b0 b1 cI (tot + 256)) := by
  refine pq_enter (cc := cL_isPiled) (maxL := 8) (ret := (some .boolean)) (by decide) rfl (Nat.le_of_ble_eq_true rfl) ?_
  intro p ev s m args below meth cd A ls Q H locs hx hb hr hml hts hown hlocks hnm hK hP hD hS hA hE hl hQ
  have hl : lv_has ls 8 [(0, .ref q), (1, .int (nI kx)), (2, .int (nI w0)), (3, .int (nI ko))] := hl
  have hP : va_P D vwCl (ppW q h a0 a1 a2 a3 a4 a5 g b0 b1 cI fi la B G pr) H := hP
  have hD : va_D A (ppW q h a0 a1 a2 a3 a4 a5 g b0 b1 cI fi la B G pr) := hD
  have hN1 := I.1
  have hN2 := I.2.1
  refine lv_aload_n hx hb dL_isPiled_0 rfl (lv_at hl 0 rfl) ?_
  refine lv_iload_n hx hb dL_isPiled_1 rfl (lv_at hl 1 rfl) ?_
  refine pq_callV (wr := []) (own := RL) (nL := 8) (q0 := 0) (ci := 2) [0, 1, 2, 3, 4, 5, 6, 7, 8, 9, 10] [] [.int (nI kx)] (f_height l D cI q h a0 a1 a2 a3 a4 a5 g b0 b1 I (kx := kx) (by omega)) ⟨hx, hb, hml, hown, hts⟩ (cwV 1 hts gL_isPiled_X2_height rfl rfl rfl (by decide +kernel) ⟨by dsimp only [pq_R]; omega, by dsimp only [pq_R]; omega⟩) pq_blE (hE.call hD hS hA [0, 1, 2, 3, 4, 5, 6, 7, 8, 9, 10] rfl) hK hP hD hS hA rfl (by decide) rfl (by decide) (by decide) rfl rfl rfl rfl hl.1 rfl (Nat.le_of_ble_eq_true rfl) dL_isPiled_2 ⟨by dsimp only [pq_R]; omega, by dsimp only [pq_R]; omega⟩ (fun v w1 H locs hq hP hD hS hz => ?_)
  obtain ⟨rfl, rfl⟩ := hq
  have b_1 := (I.2.2.2.2.2.2.1 kx (by omega)).1
  have hP : va_P D vwCl (ppW q h a0 a1 a2 a3 a4 a5 g b0 b1 cI fi la B G pr) H := hP
  have hD : va_D A (ppW q h a0 a1 a2 a3 a4 a5 g b0 b1 cI fi la B G pr) := hD
  refine W.eq (g2 := F0 m 5 ls [.int (nI (hs kx))]) rfl ?_
  refine lv_istore (lv' := [(4, .int (nI (hs kx))), (0, .ref q), (1, .int (nI kx)), (2, .int (nI w0)), (3, .int (nI ko))]) hx hb dL_isPiled_5 hl (by decide) rfl (fun ls hl => ?_)
  refine lv_iload hx hb dL_isPiled_7 (lv_at hl 0 rfl) ?_
  refine lv_iload_n hx hb dL_isPiled_9 rfl (lv_at hl 3 rfl) ?_
  refine lv_iadd hx hb dL_isPiled_10 ?_
  refine pq_top (nI ((hs kx) + w0)) (nI_add _ _) ?_
  refine lv_sipush (v := 1000) hx hb dL_isPiled_11 (by decide) ?_
  rcases Nat.lt_or_ge 1000 ((hs kx) + w0) with k_2 | k_2
  · refine lv_icmp_le (tgt := 19) hx hb dL_isPiled_14 (by decide) (fun c9 => absurd c9 ((nI_ge (a := 1000) (b := ((hs kx) + w0)) k_2 (by omega)))) (fun _ => ?_)
    refine lv_iconst (v := 1) hx hb dL_isPiled_17 (by decide) ?_
    exact pq_zret hQ hx hb hr hlocks hK hS hP hD dL_isPiled_18 (by omega) (by omega) (by decide) (⟨rfl, _, _, _, _, _, _, _, _, _, _, _, rfl, I, by omega⟩)
  · refine lv_icmp_le (tgt := 19) hx hb dL_isPiled_14 (by decide) (fun _ => ?_) (fun c9 => absurd ((nI_le (a := ((hs kx) + w0)) (b := 1000) k_2 (by omega))) c9)
    refine lv_aload_n hx hb dL_isPiled_19 rfl (lv_at hl 1 rfl) ?_
    refine lv_iload_n hx hb dL_isPiled_20 rfl (lv_at hl 4 rfl) ?_
    refine pq_callV (wr := []) (own := RL) (nL := 8) (q0 := 0) (ci := 2) [0, 1, 2, 3, 4, 5, 6, 7, 8, 9, 10] [] [.int (nI ko)] (f_heightOfColumn l D cI q h a0 a1 a2 a3 a4 a5 g b0 b1 I (kx := ko) (by omega)) ⟨hx, hb, hml, hown, hts⟩ (cwV 1 hts gL_isPiled_X2_heightOfColumn rfl rfl rfl (by decide +kernel) ⟨by dsimp only [pq_R]; omega, by dsimp only [pq_R]; omega⟩) pq_blE (hE.call hD hS hA [0, 1, 2, 3, 4, 5, 6, 7, 8, 9, 10] rfl) hK hP hD hS hA rfl (by decide) rfl (by decide) (by decide) rfl rfl rfl rfl hl.1 rfl (Nat.le_of_ble_eq_true rfl) dL_isPiled_21 ⟨by dsimp only [pq_R]; omega, by dsimp only [pq_R]; omega⟩ (fun v w1 H locs hq hP hD hS hz => ?_)
    obtain ⟨rfl, rfl⟩ := hq
    have b_3 := (I.2.2.2.2.2.2.1 ko (by omega)).1
    have hP : va_P D vwCl (ppW q h a0 a1 a2 a3 a4 a5 g b0 b1 cI fi la B G pr) H := hP
    have hD : va_D A (ppW q h a0 a1 a2 a3 a4 a5 g b0 b1 cI fi la B G pr) := hD
    refine W.eq (g2 := F0 m 24 ls [.int (nI (hs ko))]) rfl ?_
    refine lv_istore (lv' := [(5, .int (nI (hs ko))), (4, .int (nI (hs kx))), (0, .ref q), (1, .int (nI kx)), (2, .int (nI w0)), (3, .int (nI ko))]) hx hb dL_isPiled_24 hl (by decide) rfl (fun ls hl => ?_)
    refine lv_aload_n hx hb dL_isPiled_26 rfl (lv_at hl 2 rfl) ?_
    refine pq_callV (wr := []) (own := RL) (nL := 8) (q0 := 0) (ci := 2) [0, 1, 2, 3, 4, 5, 6, 7, 8, 9, 10] [] [] (f_allVisits l D cI q h a0 a1 a2 a3 a4 a5 g b0 b1 I) ⟨hx, hb, hml, hown, hts⟩ (cwV 0 hts gL_isPiled_X2_allVisits rfl rfl rfl (by decide +kernel) ⟨by dsimp only [pq_R]; omega, by dsimp only [pq_R]; omega⟩) pq_blE (hE.call hD hS hA [0, 1, 2, 3, 4, 5, 6, 7, 8, 9, 10] rfl) hK hP hD hS hA rfl (by decide) rfl (by decide) (by decide) rfl rfl rfl rfl hl.1 rfl (Nat.le_of_ble_eq_true rfl) dL_isPiled_27 ⟨by dsimp only [pq_R]; omega, by dsimp only [pq_R]; omega⟩ (fun v w1 H locs hq hP hD hS hz => ?_)
    obtain ⟨rfl, rfl⟩ := hq
    have hP : va_P D vwCl (ppW q h a0 a1 a2 a3 a4 a5 g b0 b1 cI fi la B G pr) H := hP
    have hD : va_D A (ppW q h a0 a1 a2 a3 a4 a5 g b0 b1 cI fi la B G pr) := hD
    refine W.eq (g2 := F0 m 30 ls [.int (nI tot)]) rfl ?_
    refine lv_istore (lv' := [(6, .int (nI tot)), (5, .int (nI (hs ko))), (4, .int (nI (hs kx))), (0, .ref q), (1, .int (nI kx)), (2, .int (nI w0)), (3, .int (nI ko))]) hx hb dL_isPiled_30 hl (by decide) rfl (fun ls hl => ?_)
    refine lv_aload_n hx hb dL_isPiled_32 rfl (lv_at hl 3 rfl) ?_
    refine lv_iload_n hx hb dL_isPiled_33 rfl (lv_at hl 4 rfl) ?_
    refine lv_iload_n hx hb dL_isPiled_34 rfl (lv_at hl 5 rfl) ?_
    refine pq_callV (wr := []) (own := RL) (nL := 8) (q0 := 0) (ci := 2) [0, 1, 2, 3, 4, 5, 6, 7, 8, 9, 10] [] [.int (nI kx), .int (nI w0)] (f_pile l D cI q h a0 a1 a2 a3 a4 a5 g b0 b1 I (kx := kx) (w0 := w0) (by omega) (by omega) (by omega)) ⟨hx, hb, hml, hown, hts⟩ (cwV 2 hts gL_isPiled_X2_pile rfl rfl rfl (by decide +kernel) ⟨by dsimp only [pq_R]; omega, by dsimp only [pq_R]; omega⟩) pq_blE (hE.call hD hS hA [0, 1, 2, 3, 4, 5, 6, 7, 8, 9, 10] rfl) hK hP hD hS hA rfl (by decide) rfl (by decide) (by decide) rfl rfl rfl rfl hl.1 rfl (Nat.le_of_ble_eq_true rfl) dL_isPiled_35 ⟨by dsimp only [pq_R]; omega, by dsimp only [pq_R]; omega⟩ (fun v w1 H locs hq hP hD hS hz => ?_)
    obtain ⟨v_5, fi_5, la_5, B_5, G_5, pr_5, n_5, m_5, rfl, rfl, I_5⟩ := hq
    obtain ⟨hs_5, hh_5⟩ : ∃ z : Nat → Nat, z = (fun x => if x = kx then hs kx + w0 else hs x) := ⟨_, rfl⟩
    obtain ⟨cs_5, hc_5⟩ : ∃ z : Nat → Nat, z = (fun x => if x = kx then 0 else cs x) := ⟨_, rfl⟩
    rw [← hh_5, ← hc_5] at I_5
    have hP : va_P D vwCl (ppW q h a0 a1 a2 a3 a4 a5 g b0 b1 cI fi_5 la_5 B_5 G_5 pr_5) H := hP
    have hD : va_D A (ppW q h a0 a1 a2 a3 a4 a5 g b0 b1 cI fi_5 la_5 B_5 G_5 pr_5) := hD
    refine W.eq (g2 := F0 m 38 ls [.int (nI (hs kx + w0))]) rfl ?_
    have e_5 : hs_5 kx = hs kx + w0 := by rw [hh_5]; exact if_pos rfl
    refine lv_iload hx hb dL_isPiled_38 (lv_at hl 2 rfl) ?_
    refine lv_iload_n hx hb dL_isPiled_40 rfl (lv_at hl 5 rfl) ?_
    refine lv_iadd hx hb dL_isPiled_41 ?_
    refine pq_top (nI ((hs kx) + w0)) (nI_add _ _) ?_
    refine lv_icmp_ne (tgt := 76) hx hb dL_isPiled_42 (by decide) (fun c9 => absurd ((nI_eq (a := (hs kx + w0)) (b := ((hs kx) + w0)) (by omega) (by omega)).mpr (by omega)) c9) (fun _ => ?_)
    refine lv_aload_n hx hb dL_isPiled_45 rfl (lv_at hl 3 rfl) ?_
    refine lv_iload_n hx hb dL_isPiled_46 rfl (lv_at hl 4 rfl) ?_
    refine pq_callV (wr := []) (own := RL) (nL := 8) (q0 := 0) (ci := 2) [0, 1, 2, 3, 4, 5, 6, 7, 8, 9, 10] [] [.int (nI kx)] (f_height l D cI q h a0 a1 a2 a3 a4 a5 g b0 b1 I_5 (kx := kx) (by omega)) ⟨hx, hb, hml, hown, hts⟩ (cwV 1 hts gL_isPiled_X2_height rfl rfl rfl (by decide +kernel) ⟨by dsimp only [pq_R]; omega, by dsimp only [pq_R]; omega⟩) pq_blE (hE.call hD hS hA [0, 1, 2, 3, 4, 5, 6, 7, 8, 9, 10] rfl) hK hP hD hS hA rfl (by decide) rfl (by decide) (by decide) rfl rfl rfl rfl hl.1 rfl (Nat.le_of_ble_eq_true rfl) dL_isPiled_47 ⟨by dsimp only [pq_R]; omega, by dsimp only [pq_R]; omega⟩ (fun v w1 H locs hq hP hD hS hz => ?_)
    obtain ⟨rfl, rfl⟩ := hq
    have b_6 := (I_5.2.2.2.2.2.2.1 kx (by omega)).1
    have hP : va_P D vwCl (ppW q h a0 a1 a2 a3 a4 a5 g b0 b1 cI fi_5 la_5 B_5 G_5 pr_5) H := hP
    have hD : va_D A (ppW q h a0 a1 a2 a3 a4 a5 g b0 b1 cI fi_5 la_5 B_5 G_5 pr_5) := hD
    refine W.eq (g2 := F0 m 50 ls [.int (nI (hs_5 kx))]) rfl ?_
    refine lv_iload hx hb dL_isPiled_50 (lv_at hl 2 rfl) ?_
    refine lv_iload_n hx hb dL_isPiled_52 rfl (lv_at hl 5 rfl) ?_
    refine lv_iadd hx hb dL_isPiled_53 ?_
    refine pq_top (nI ((hs kx) + w0)) (nI_add _ _) ?_
    refine lv_icmp_ne (tgt := 76) hx hb dL_isPiled_54 (by decide) (fun c9 => absurd ((nI_eq (a := (hs_5 kx)) (b := ((hs kx) + w0)) (by omega) (by omega)).mpr (by omega)) c9) (fun _ => ?_)
    refine lv_iload_n hx hb dL_isPiled_57 rfl (lv_at hl 6 rfl) ?_
    refine lv_iload_n hx hb dL_isPiled_58 rfl (lv_at hl 4 rfl) ?_
    by_cases k_7 : ko = kx
    · refine lv_icmp_eq (tgt := 72) hx hb dL_isPiled_59 (by decide) (fun _ => ?_) (fun c9 => absurd ((nI_eq (a := ko) (b := kx) (by omega) (by omega)).mpr (by omega)) c9)
      refine lv_iconst (v := 1) hx hb dL_isPiled_72 (by decide) ?_
      refine lv_goto (tgt := 77) hx hb dL_isPiled_73 (by decide) ?_
      refine lv_istore (lv' := [(7, .int 1), (6, .int (nI tot)), (5, .int (nI (hs ko))), (4, .int (nI (hs kx))), (0, .ref q), (1, .int (nI kx)), (2, .int (nI w0)), (3, .int (nI ko))]) hx hb dL_isPiled_77 hl (by decide) rfl (fun ls hl => ?_)
      refine lv_iload hx hb dL_isPiled_79 (lv_at hl 0 rfl) ?_
      refine lv_if_eq (tgt := 119) hx hb dL_isPiled_81 (by decide) (fun c9 => absurd c9 (by decide)) (fun _ => ?_)
      refine lv_aload_n hx hb dL_isPiled_84 rfl (lv_at hl 4 rfl) ?_
      refine pq_callV (wr := []) (own := RL) (nL := 8) (q0 := 0) (ci := 2) [0, 1, 2, 3, 4, 5, 6, 7, 8, 9, 10] [] [] (f_visits l D cI q h a0 a1 a2 a3 a4 a5 g b0 b1 I_5) ⟨hx, hb, hml, hown, hts⟩ (cwV 0 hts gL_isPiled_X2_visits rfl rfl rfl (by decide +kernel) ⟨by dsimp only [pq_R]; omega, by dsimp only [pq_R]; omega⟩) pq_blE (hE.call hD hS hA [0, 1, 2, 3, 4, 5, 6, 7, 8, 9, 10] rfl) hK hP hD hS hA rfl (by decide) rfl (by decide) (by decide) rfl rfl rfl rfl hl.1 rfl (Nat.le_of_ble_eq_true rfl) dL_isPiled_85 ⟨by dsimp only [pq_R]; omega, by dsimp only [pq_R]; omega⟩ (fun v w1 H locs hq hP hD hS hz => ?_)
      obtain ⟨rfl, rfl⟩ := hq
      have hP : va_P D vwCl (ppW q h a0 a1 a2 a3 a4 a5 g b0 b1 cI fi_5 la_5 B_5 G_5 pr_5) H := hP
      have hD : va_D A (ppW q h a0 a1 a2 a3 a4 a5 g b0 b1 cI fi_5 la_5 B_5 G_5 pr_5) := hD
      refine W.eq (g2 := F0 m 88 ls [.int (nI v_5)]) rfl ?_
      refine lv_iconst (v := 1) hx hb dL_isPiled_88 (by decide) ?_
      refine lv_icmp_lt (tgt := 119) hx hb dL_isPiled_89 (by decide) (fun c9 => absurd c9 (nI_nlt (a := v_5) (b := 1) (by omega) (by omega))) (fun _ => ?_)
      refine lv_aload_n hx hb dL_isPiled_92 rfl (lv_at hl 4 rfl) ?_
      refine pq_callV (wr := []) (own := RL) (nL := 8) (q0 := 0) (ci := 2) [0, 1, 2, 3, 4, 5, 6, 7, 8, 9, 10] [] [] (f_visits l D cI q h a0 a1 a2 a3 a4 a5 g b0 b1 I_5) ⟨hx, hb, hml, hown, hts⟩ (cwV 0 hts gL_isPiled_X2_visits rfl rfl rfl (by decide +kernel) ⟨by dsimp only [pq_R]; omega, by dsimp only [pq_R]; omega⟩) pq_blE (hE.call hD hS hA [0, 1, 2, 3, 4, 5, 6, 7, 8, 9, 10] rfl) hK hP hD hS hA rfl (by decide) rfl (by decide) (by decide) rfl rfl rfl rfl hl.1 rfl (Nat.le_of_ble_eq_true rfl) dL_isPiled_93 ⟨by dsimp only [pq_R]; omega, by dsimp only [pq_R]; omega⟩ (fun v w1 H locs hq hP hD hS hz => ?_)
      obtain ⟨rfl, rfl⟩ := hq
      have hP : va_P D vwCl (ppW q h a0 a1 a2 a3 a4 a5 g b0 b1 cI fi_5 la_5 B_5 G_5 pr_5) H := hP
      have hD : va_D A (ppW q h a0 a1 a2 a3 a4 a5 g b0 b1 cI fi_5 la_5 B_5 G_5 pr_5) := hD
      refine W.eq (g2 := F0 m 96 ls [.int (nI v_5)]) rfl ?_
      refine lv_bipush (v := 7) hx hb dL_isPiled_96 (by decide) ?_
      refine lv_icmp_gt (tgt := 119) hx hb dL_isPiled_98 (by decide) (fun c9 => absurd c9 (nI_nlt (a := 7) (b := v_5) (by omega) (by omega))) (fun _ => ?_)
      refine lv_aload_n hx hb dL_isPiled_101 rfl (lv_at hl 4 rfl) ?_
      refine pq_callV (wr := []) (own := RL) (nL := 8) (q0 := 0) (ci := 2) [0, 1, 2, 3, 4, 5, 6, 7, 8, 9, 10] [] [] (f_allVisits l D cI q h a0 a1 a2 a3 a4 a5 g b0 b1 I_5) ⟨hx, hb, hml, hown, hts⟩ (cwV 0 hts gL_isPiled_X2_allVisits rfl rfl rfl (by decide +kernel) ⟨by dsimp only [pq_R]; omega, by dsimp only [pq_R]; omega⟩) pq_blE (hE.call hD hS hA [0, 1, 2, 3, 4, 5, 6, 7, 8, 9, 10] rfl) hK hP hD hS hA rfl (by decide) rfl (by decide) (by decide) rfl rfl rfl rfl hl.1 rfl (Nat.le_of_ble_eq_true rfl) dL_isPiled_102 ⟨by dsimp only [pq_R]; omega, by dsimp only [pq_R]; omega⟩ (fun v w1 H locs hq hP hD hS hz => ?_)
      obtain ⟨rfl, rfl⟩ := hq
      have hP : va_P D vwCl (ppW q h a0 a1 a2 a3 a4 a5 g b0 b1 cI fi_5 la_5 B_5 G_5 pr_5) H := hP
      have hD : va_D A (ppW q h a0 a1 a2 a3 a4 a5 g b0 b1 cI fi_5 la_5 B_5 G_5 pr_5) := hD
      refine W.eq (g2 := F0 m 105 ls [.int (nI (tot + v_5))]) rfl ?_
      refine lv_iload hx hb dL_isPiled_105 (lv_at hl 1 rfl) ?_
      refine lv_aload_n hx hb dL_isPiled_107 rfl (lv_at hl 4 rfl) ?_
      refine pq_callV (wr := []) (own := RL) (nL := 8) (q0 := 0) (ci := 2) [0, 1, 2, 3, 4, 5, 6, 7, 8, 9, 10] [] [] (f_visits l D cI q h a0 a1 a2 a3 a4 a5 g b0 b1 I_5) ⟨hx, hb, hml, hown, hts⟩ (cwV 0 hts gL_isPiled_X2_visits rfl rfl rfl (by decide +kernel) ⟨by dsimp only [pq_R]; omega, by dsimp only [pq_R]; omega⟩) pq_blE (hE.call hD hS hA [0, 1, 2, 3, 4, 5, 6, 7, 8, 9, 10] rfl) hK hP hD hS hA rfl (by decide) rfl (by decide) (by decide) rfl rfl rfl rfl hl.1 rfl (Nat.le_of_ble_eq_true rfl) dL_isPiled_108 ⟨by dsimp only [pq_R]; omega, by dsimp only [pq_R]; omega⟩ (fun v w1 H locs hq hP hD hS hz => ?_)
      obtain ⟨rfl, rfl⟩ := hq
      have hP : va_P D vwCl (ppW q h a0 a1 a2 a3 a4 a5 g b0 b1 cI fi_5 la_5 B_5 G_5 pr_5) H := hP
      have hD : va_D A (ppW q h a0 a1 a2 a3 a4 a5 g b0 b1 cI fi_5 la_5 B_5 G_5 pr_5) := hD
      refine W.eq (g2 := F0 m 111 ls [.int (nI v_5), .int (nI tot), .int (nI (tot + v_5))]) rfl ?_
      refine lv_iadd hx hb dL_isPiled_111 ?_
      refine pq_top (nI (tot + v_5)) (nI_add _ _) ?_
      refine lv_icmp_ne (tgt := 119) hx hb dL_isPiled_112 (by decide) (fun c9 => absurd ((nI_eq (a := (tot + v_5)) (b := (tot + v_5)) (by omega) (by omega)).mpr (by omega)) c9) (fun _ => ?_)
      refine lv_iconst (v := 1) hx hb dL_isPiled_115 (by decide) ?_
      refine lv_goto (tgt := 120) hx hb dL_isPiled_116 (by decide) ?_
      exact pq_zret hQ hx hb hr hlocks hK hS hP hD dL_isPiled_120 (by omega) (by omega) (by decide) (⟨rfl, _, _, _, _, _, _, _, _, _, _, _, rfl, I_5, by omega⟩)
    · refine lv_icmp_eq (tgt := 72) hx hb dL_isPiled_59 (by decide) (fun c9 => absurd c9 (mt (nI_eq (a := ko) (b := kx) (by omega) (by omega)).mp (by omega))) (fun _ => ?_)
      refine lv_aload_n hx hb dL_isPiled_62 rfl (lv_at hl 3 rfl) ?_
      refine lv_iload_n hx hb dL_isPiled_63 rfl (lv_at hl 6 rfl) ?_
      refine pq_callV (wr := []) (own := RL) (nL := 8) (q0 := 0) (ci := 2) [0, 1, 2, 3, 4, 5, 6, 7, 8, 9, 10] [] [.int (nI ko)] (f_heightOfColumn l D cI q h a0 a1 a2 a3 a4 a5 g b0 b1 I_5 (kx := ko) (by omega)) ⟨hx, hb, hml, hown, hts⟩ (cwV 1 hts gL_isPiled_X2_heightOfColumn rfl rfl rfl (by decide +kernel) ⟨by dsimp only [pq_R]; omega, by dsimp only [pq_R]; omega⟩) pq_blE (hE.call hD hS hA [0, 1, 2, 3, 4, 5, 6, 7, 8, 9, 10] rfl) hK hP hD hS hA rfl (by decide) rfl (by decide) (by decide) rfl rfl rfl rfl hl.1 rfl (Nat.le_of_ble_eq_true rfl) dL_isPiled_64 ⟨by dsimp only [pq_R]; omega, by dsimp only [pq_R]; omega⟩ (fun v w1 H locs hq hP hD hS hz => ?_)
      obtain ⟨rfl, rfl⟩ := hq
      have b_12 := (I_5.2.2.2.2.2.2.1 ko (by omega)).1
      have hP : va_P D vwCl (ppW q h a0 a1 a2 a3 a4 a5 g b0 b1 cI fi_5 la_5 B_5 G_5 pr_5) H := hP
      have hD : va_D A (ppW q h a0 a1 a2 a3 a4 a5 g b0 b1 cI fi_5 la_5 B_5 G_5 pr_5) := hD
      refine W.eq (g2 := F0 m 67 ls [.int (nI (hs_5 ko))]) rfl ?_
      have e_12 : hs_5 ko = hs ko := by rw [hh_5]; exact if_neg k_7
      refine lv_iload hx hb dL_isPiled_67 (lv_at hl 1 rfl) ?_
      refine lv_icmp_ne (tgt := 76) hx hb dL_isPiled_69 (by decide) (fun c9 => absurd ((nI_eq (a := (hs_5 ko)) (b := (hs ko)) (by omega) (by omega)).mpr (by omega)) c9) (fun _ => ?_)
      refine lv_iconst (v := 1) hx hb dL_isPiled_72 (by decide) ?_
      refine lv_goto (tgt := 77) hx hb dL_isPiled_73 (by decide) ?_
      refine lv_istore (lv' := [(7, .int 1), (6, .int (nI tot)), (5, .int (nI (hs ko))), (4, .int (nI (hs kx))), (0, .ref q), (1, .int (nI kx)), (2, .int (nI w0)), (3, .int (nI ko))]) hx hb dL_isPiled_77 hl (by decide) rfl (fun ls hl => ?_)
      refine lv_iload hx hb dL_isPiled_79 (lv_at hl 0 rfl) ?_
      refine lv_if_eq (tgt := 119) hx hb dL_isPiled_81 (by decide) (fun c9 => absurd c9 (by decide)) (fun _ => ?_)
      refine lv_aload_n hx hb dL_isPiled_84 rfl (lv_at hl 4 rfl) ?_
      refine pq_callV (wr := []) (own := RL) (nL := 8) (q0 := 0) (ci := 2) [0, 1, 2, 3, 4, 5, 6, 7, 8, 9, 10] [] [] (f_visits l D cI q h a0 a1 a2 a3 a4 a5 g b0 b1 I_5) ⟨hx, hb, hml, hown, hts⟩ (cwV 0 hts gL_isPiled_X2_visits rfl rfl rfl (by decide +kernel) ⟨by dsimp only [pq_R]; omega, by dsimp only [pq_R]; omega⟩) pq_blE (hE.call hD hS hA [0, 1, 2, 3, 4, 5, 6, 7, 8, 9, 10] rfl) hK hP hD hS hA rfl (by decide) rfl (by decide) (by decide) rfl rfl rfl rfl hl.1 rfl (Nat.le_of_ble_eq_true rfl) dL_isPiled_85 ⟨by dsimp only [pq_R]; omega, by dsimp only [pq_R]; omega⟩ (fun v w1 H locs hq hP hD hS hz => ?_)
      obtain ⟨rfl, rfl⟩ := hq
      have hP : va_P D vwCl (ppW q h a0 a1 a2 a3 a4 a5 g b0 b1 cI fi_5 la_5 B_5 G_5 pr_5) H := hP
      have hD : va_D A (ppW q h a0 a1 a2 a3 a4 a5 g b0 b1 cI fi_5 la_5 B_5 G_5 pr_5) := hD
      refine W.eq (g2 := F0 m 88 ls [.int (nI v_5)]) rfl ?_
      refine lv_iconst (v := 1) hx hb dL_isPiled_88 (by decide) ?_
      refine lv_icmp_lt (tgt := 119) hx hb dL_isPiled_89 (by decide) (fun c9 => absurd c9 (nI_nlt (a := v_5) (b := 1) (by omega) (by omega))) (fun _ => ?_)
      refine lv_aload_n hx hb dL_isPiled_92 rfl (lv_at hl 4 rfl) ?_
      refine pq_callV (wr := []) (own := RL) (nL := 8) (q0 := 0) (ci := 2) [0, 1, 2, 3, 4, 5, 6, 7, 8, 9, 10] [] [] (f_visits l D cI q h a0 a1 a2 a3 a4 a5 g b0 b1 I_5) ⟨hx, hb, hml, hown, hts⟩ (cwV 0 hts gL_isPiled_X2_visits rfl rfl rfl (by decide +kernel) ⟨by dsimp only [pq_R]; omega, by dsimp only [pq_R]; omega⟩) pq_blE (hE.call hD hS hA [0, 1, 2, 3, 4, 5, 6, 7, 8, 9, 10] rfl) hK hP hD hS hA rfl (by decide) rfl (by decide) (by decide) rfl rfl rfl rfl hl.1 rfl (Nat.le_of_ble_eq_true rfl) dL_isPiled_93 ⟨by dsimp only [pq_R]; omega, by dsimp only [pq_R]; omega⟩ (fun v w1 H locs hq hP hD hS hz => ?_)
      obtain ⟨rfl, rfl⟩ := hq
      have hP : va_P D vwCl (ppW q h a0 a1 a2 a3 a4 a5 g b0 b1 cI fi_5 la_5 B_5 G_5 pr_5) H := hP
      have hD : va_D A (ppW q h a0 a1 a2 a3 a4 a5 g b0 b1 cI fi_5 la_5 B_5 G_5 pr_5) := hD
      refine W.eq (g2 := F0 m 96 ls [.int (nI v_5)]) rfl ?_
      refine lv_bipush (v := 7) hx hb dL_isPiled_96 (by decide) ?_
      refine lv_icmp_gt (tgt := 119) hx hb dL_isPiled_98 (by decide) (fun c9 => absurd c9 (nI_nlt (a := 7) (b := v_5) (by omega) (by omega))) (fun _ => ?_)
      refine lv_aload_n hx hb dL_isPiled_101 rfl (lv_at hl 4 rfl) ?_
      refine pq_callV (wr := []) (own := RL) (nL := 8) (q0 := 0) (ci := 2) [0, 1, 2, 3, 4, 5, 6, 7, 8, 9, 10] [] [] (f_allVisits l D cI q h a0 a1 a2 a3 a4 a5 g b0 b1 I_5) ⟨hx, hb, hml, hown, hts⟩ (cwV 0 hts gL_isPiled_X2_allVisits rfl rfl rfl (by decide +kernel) ⟨by dsimp only [pq_R]; omega, by dsimp only [pq_R]; omega⟩) pq_blE (hE.call hD hS hA [0, 1, 2, 3, 4, 5, 6, 7, 8, 9, 10] rfl) hK hP hD hS hA rfl (by decide) rfl (by decide) (by decide) rfl rfl rfl rfl hl.1 rfl (Nat.le_of_ble_eq_true rfl) dL_isPiled_102 ⟨by dsimp only [pq_R]; omega, by dsimp only [pq_R]; omega⟩ (fun v w1 H locs hq hP hD hS hz => ?_)
      obtain ⟨rfl, rfl⟩ := hq
      have hP : va_P D vwCl (ppW q h a0 a1 a2 a3 a4 a5 g b0 b1 cI fi_5 la_5 B_5 G_5 pr_5) H := hP
      have hD : va_D A (ppW q h a0 a1 a2 a3 a4 a5 g b0 b1 cI fi_5 la_5 B_5 G_5 pr_5) := hD
      refine W.eq (g2 := F0 m 105 ls [.int (nI (tot + v_5))]) rfl ?_
      refine lv_iload hx hb dL_isPiled_105 (lv_at hl 1 rfl) ?_
      refine lv_aload_n hx hb dL_isPiled_107 rfl (lv_at hl 4 rfl) ?_
      refine pq_callV (wr := []) (own := RL) (nL := 8) (q0 := 0) (ci := 2) [0, 1, 2, 3, 4, 5, 6, 7, 8, 9, 10] [] [] (f_visits l D cI q h a0 a1 a2 a3 a4 a5 g b0 b1 I_5) ⟨hx, hb, hml, hown, hts⟩ (cwV 0 hts gL_isPiled_X2_visits rfl rfl rfl (by decide +kernel) ⟨by dsimp only [pq_R]; omega, by dsimp only [pq_R]; omega⟩) pq_blE (hE.call hD hS hA [0, 1, 2, 3, 4, 5, 6, 7, 8, 9, 10] rfl) hK hP hD hS hA rfl (by decide) rfl (by decide) (by decide) rfl rfl rfl rfl hl.1 rfl (Nat.le_of_ble_eq_true rfl) dL_isPiled_108 ⟨by dsimp only [pq_R]; omega, by dsimp only [pq_R]; omega⟩ (fun v w1 H locs hq hP hD hS hz => ?_)
      obtain ⟨rfl, rfl⟩ := hq
      have hP : va_P D vwCl (ppW q h a0 a1 a2 a3 a4 a5 g b0 b1 cI fi_5 la_5 B_5 G_5 pr_5) H := hP
      have hD : va_D A (ppW q h a0 a1 a2 a3 a4 a5 g b0 b1 cI fi_5 la_5 B_5 G_5 pr_5) := hD
      refine W.eq (g2 := F0 m 111 ls [.int (nI v_5), .int (nI tot), .int (nI (tot + v_5))]) rfl ?_
      refine lv_iadd hx hb dL_isPiled_111 ?_
      refine pq_top (nI (tot + v_5)) (nI_add _ _) ?_
      refine lv_icmp_ne (tgt := 119) hx hb dL_isPiled_112 (by decide) (fun c9 => absurd ((nI_eq (a := (tot + v_5)) (b := (tot + v_5)) (by omega) (by omega)).mpr (by omega)) c9) (fun _ => ?_)
      refine lv_iconst (v := 1) hx hb dL_isPiled_115 (by decide) ?_
      refine lv_goto (tgt := 120) hx hb dL_isPiled_116 (by decide) ?_
      exact pq_zret hQ hx hb hr hlocks hK hS hP hD dL_isPiled_120 (by omega) (by omega) (by decide) (⟨rfl, _, _, _, _, _, _, _, _, _, _, _, rfl, I_5, by omega⟩)

set_option maxHeartbeats 4000000 in
set_option maxRecDepth 100000 in
theorem mL_isAsked (l : Launch) (D : va_G) (cI : ClassId) (q h a0 a1 a2 a3 a4 a5 g b0 b1 : Nat) {N : Nat} {hs cs : Nat → Nat} {vis tot cal : Nat} {fi la : Nat → Int32} {B : BK} {G : GK} {pr : Int32} (I : J N hs cs vis tot cal fi la B G pr) (ht : tot ≤ 100000) {kf kt : Nat} (hft : kf ≤ kt) (htN : kt < N) : pq_M l yL_isAsked wsL_isAsked 14 315 0 0 D [(cI, .int)] pq_Ev (ppW q h a0 a1 a2 a3 a4 a5 g b0 b1 cI fi la B G pr) [.ref q, .int (nI kf), .int (nI kt)] (Lp q h a0 a1 a2 a3 a4 a5 g b0 b1 cI (tot + 256)) := by
  refine pq_enter (cc := cL_isAsked) (maxL := 8) (ret := (some .boolean)) (by decide) rfl (Nat.le_of_ble_eq_true rfl) ?_
  intro p ev s m args below meth cd A ls Q H locs hx hb hr hml hts hown hlocks hnm hK hP hD hS hA hE hl hQ
  have hl : lv_has ls 8 [(0, .ref q), (1, .int (nI kf)), (2, .int (nI kt))] := hl
  have hP : va_P D vwCl (ppW q h a0 a1 a2 a3 a4 a5 g b0 b1 cI fi la B G pr) H := hP
  have hD : va_D A (ppW q h a0 a1 a2 a3 a4 a5 g b0 b1 cI fi la B G pr) := hD
  have hN1 := I.1
  have hN2 := I.2.1
  refine lv_aload_n hx hb dL_isAsked_0 rfl (lv_at hl 0 rfl) ?_
  refine lv_iload_n hx hb dL_isAsked_1 rfl (lv_at hl 1 rfl) ?_
  refine lv_iload_n hx hb dL_isAsked_2 rfl (lv_at hl 2 rfl) ?_
  refine pq_callV (wr := []) (own := RL) (nL := 8) (q0 := 0) (ci := 2) [0, 1, 2, 3, 4, 5, 6, 7, 8, 9, 10] [] [.int (nI kf), .int (nI kt)] (f_earthByColumns l D cI q h a0 a1 a2 a3 a4 a5 g b0 b1 I (kf := kf) (kt := kt) (by omega) (by omega)) ⟨hx, hb, hml, hown, hts⟩ (cwV 2 hts gL_isAsked_X2_earthByColumns rfl rfl rfl (by decide +kernel) ⟨by dsimp only [pq_R]; omega, by dsimp only [pq_R]; omega⟩) pq_blE (hE.call hD hS hA [0, 1, 2, 3, 4, 5, 6, 7, 8, 9, 10] rfl) hK hP hD hS hA rfl (by decide) rfl (by decide) (by decide) rfl rfl rfl rfl hl.1 rfl (Nat.le_of_ble_eq_true rfl) dL_isAsked_3 ⟨by dsimp only [pq_R]; omega, by dsimp only [pq_R]; omega⟩ (fun v w1 H locs hq hP hD hS hz => ?_)
  obtain ⟨rfl, rfl⟩ := hq
  have b_1 := j_sum_b (c := 0) I (f := kf) (t := kt) (by omega) (by omega)
  have hP : va_P D vwCl (ppW q h a0 a1 a2 a3 a4 a5 g b0 b1 cI fi la B G pr) H := hP
  have hD : va_D A (ppW q h a0 a1 a2 a3 a4 a5 g b0 b1 cI fi la B G pr) := hD
  refine W.eq (g2 := F0 m 6 ls [.int (nI (nSum hs kf 0 (kt + 1 - kf)))]) rfl ?_
  refine lv_istore_n (lv' := [(3, .int (nI (nSum hs kf 0 (kt + 1 - kf)))), (0, .ref q), (1, .int (nI kf)), (2, .int (nI kt))]) hx hb dL_isAsked_6 rfl hl (by decide) rfl (fun ls hl => ?_)
  refine lv_iconst (v := 0) hx hb dL_isAsked_7 (by decide) ?_
  refine lv_istore (lv' := [(4, .int 0), (3, .int (nI (nSum hs kf 0 (kt + 1 - kf)))), (0, .ref q), (1, .int (nI kf)), (2, .int (nI kt))]) hx hb dL_isAsked_8 hl (by decide) rfl (fun ls hl => ?_)
  refine lv_iload_n hx hb dL_isAsked_10 rfl (lv_at hl 3 rfl) ?_
  refine lv_istore (lv' := [(5, .int (nI kf)), (4, .int 0), (3, .int (nI (nSum hs kf 0 (kt + 1 - kf)))), (0, .ref q), (1, .int (nI kf)), (2, .int (nI kt))]) hx hb dL_isAsked_11 hl (by decide) rfl (fun ls hl => ?_)
  have LP : ∀ (n : Nat) (kk mo : Nat), 65 - kk < n → kf ≤ kk → kk ≤ kt + 1 → mo = nMax hs kf (kk - kf) → mo ≤ 1000 → ∀ (H : Heap) (locs : List Loc) (ls : Array Slot), va_P D vwCl (ppW q h a0 a1 a2 a3 a4 a5 g b0 b1 cI fi la B G pr) H → va_D A (ppW q h a0 a1 a2 a3 a4 a5 g b0 b1 cI fi la B G pr) → va_S A s.heap H locs → lv_has ls 8 [(5, .int (nI kk)), (4, .int (nI mo)), (3, .int (nI (nSum hs kf 0 (kt + 1 - kf)))), (0, .ref q), (1, .int (nI kf)), (2, .int (nI kt))] → W p l ev (pq_R 14 315 0 0) s m args below meth cd H locs 0 0 Q (F0 m 13 ls []) := by
    intro n
    induction n with
    | zero => intro kk mo h1; exact absurd h1 (Nat.not_lt_zero _)
    | succ n ihLP =>
      intro kk mo hmeas h1 h2 hmo hmb H locs ls hP hD hS hl
      refine lv_iload hx hb dL_isAsked_13 (lv_at hl 0 rfl) ?_
      refine lv_iload_n hx hb dL_isAsked_15 rfl (lv_at hl 5 rfl) ?_
      rcases Nat.lt_or_ge kt kk with k_2 | k_2
      · refine lv_icmp_gt (tgt := 49) hx hb dL_isAsked_16 (by decide) (fun _ => ?_) (fun c9 => absurd ((nI_lt (a := kt) (b := kk) k_2 (by omega))) c9)
        have hmo2 : mo = nMax hs kf (kt + 1 - kf) := by rw [hmo, show kk = kt + 1 by omega]
        refine lv_aload_n hx hb dL_isAsked_49 rfl (lv_at hl 3 rfl) ?_
        refine lv_iload_n hx hb dL_isAsked_50 rfl (lv_at hl 4 rfl) ?_
        refine lv_iload_n hx hb dL_isAsked_51 rfl (lv_at hl 5 rfl) ?_
        refine pq_callV (wr := []) (own := RL) (nL := 8) (q0 := 0) (ci := 2) [0, 1, 2, 3, 4, 5, 6, 7, 8, 9, 10] [] [.int (nI kf), .int (nI kt)] (f_earth l D cI q h a0 a1 a2 a3 a4 a5 g b0 b1 I (kf := kf) (kt := kt) (by omega) (by omega)) ⟨hx, hb, hml, hown, hts⟩ (cwV 2 hts gL_isAsked_X2_earth rfl rfl rfl (by decide +kernel) ⟨by dsimp only [pq_R]; omega, by dsimp only [pq_R]; omega⟩) pq_blE (hE.call hD hS hA [0, 1, 2, 3, 4, 5, 6, 7, 8, 9, 10] rfl) hK hP hD hS hA rfl (by decide) rfl (by decide) (by decide) rfl rfl rfl rfl hl.1 rfl (Nat.le_of_ble_eq_true rfl) dL_isAsked_52 ⟨by dsimp only [pq_R]; omega, by dsimp only [pq_R]; omega⟩ (fun v w1 H locs hq hP hD hS hz => ?_)
        obtain ⟨v_3, fi_3, la_3, B_3, G_3, n_3, m_3, rfl, rfl, I_3⟩ := hq
        have hP : va_P D vwCl (ppW q h a0 a1 a2 a3 a4 a5 g b0 b1 cI fi_3 la_3 B_3 G_3 pr) H := hP
        have hD : va_D A (ppW q h a0 a1 a2 a3 a4 a5 g b0 b1 cI fi_3 la_3 B_3 G_3 pr) := hD
        refine W.eq (g2 := F0 m 55 ls [.int (nI (nSum hs kf 0 (kt + 1 - kf)))]) rfl ?_
        refine lv_iload_n hx hb dL_isAsked_55 rfl (lv_at hl 2 rfl) ?_
        refine lv_icmp_ne (tgt := 95) hx hb dL_isAsked_56 (by decide) (fun c9 => absurd ((nI_eq (a := (nSum hs kf 0 (kt + 1 - kf))) (b := (nSum hs kf 0 (kt + 1 - kf))) (by omega) (by omega)).mpr (by omega)) c9) (fun _ => ?_)
        refine lv_aload_n hx hb dL_isAsked_59 rfl (lv_at hl 3 rfl) ?_
        refine pq_callV (wr := []) (own := RL) (nL := 8) (q0 := 0) (ci := 2) [0, 1, 2, 3, 4, 5, 6, 7, 8, 9, 10] [] [] (f_visits l D cI q h a0 a1 a2 a3 a4 a5 g b0 b1 I_3) ⟨hx, hb, hml, hown, hts⟩ (cwV 0 hts gL_isAsked_X2_visits rfl rfl rfl (by decide +kernel) ⟨by dsimp only [pq_R]; omega, by dsimp only [pq_R]; omega⟩) pq_blE (hE.call hD hS hA [0, 1, 2, 3, 4, 5, 6, 7, 8, 9, 10] rfl) hK hP hD hS hA rfl (by decide) rfl (by decide) (by decide) rfl rfl rfl rfl hl.1 rfl (Nat.le_of_ble_eq_true rfl) dL_isAsked_60 ⟨by dsimp only [pq_R]; omega, by dsimp only [pq_R]; omega⟩ (fun v w1 H locs hq hP hD hS hz => ?_)
        obtain ⟨rfl, rfl⟩ := hq
        have hP : va_P D vwCl (ppW q h a0 a1 a2 a3 a4 a5 g b0 b1 cI fi_3 la_3 B_3 G_3 pr) H := hP
        have hD : va_D A (ppW q h a0 a1 a2 a3 a4 a5 g b0 b1 cI fi_3 la_3 B_3 G_3 pr) := hD
        refine W.eq (g2 := F0 m 63 ls [.int (nI v_3)]) rfl ?_
        refine lv_iconst (v := 1) hx hb dL_isAsked_63 (by decide) ?_
        refine lv_icmp_lt (tgt := 95) hx hb dL_isAsked_64 (by decide) (fun c9 => absurd c9 (nI_nlt (a := v_3) (b := 1) (by omega) (by omega))) (fun _ => ?_)
        refine lv_aload_n hx hb dL_isAsked_67 rfl (lv_at hl 3 rfl) ?_
        refine pq_callV (wr := []) (own := RL) (nL := 8) (q0 := 0) (ci := 2) [0, 1, 2, 3, 4, 5, 6, 7, 8, 9, 10] [] [] (f_visits l D cI q h a0 a1 a2 a3 a4 a5 g b0 b1 I_3) ⟨hx, hb, hml, hown, hts⟩ (cwV 0 hts gL_isAsked_X2_visits rfl rfl rfl (by decide +kernel) ⟨by dsimp only [pq_R]; omega, by dsimp only [pq_R]; omega⟩) pq_blE (hE.call hD hS hA [0, 1, 2, 3, 4, 5, 6, 7, 8, 9, 10] rfl) hK hP hD hS hA rfl (by decide) rfl (by decide) (by decide) rfl rfl rfl rfl hl.1 rfl (Nat.le_of_ble_eq_true rfl) dL_isAsked_68 ⟨by dsimp only [pq_R]; omega, by dsimp only [pq_R]; omega⟩ (fun v w1 H locs hq hP hD hS hz => ?_)
        obtain ⟨rfl, rfl⟩ := hq
        have hP : va_P D vwCl (ppW q h a0 a1 a2 a3 a4 a5 g b0 b1 cI fi_3 la_3 B_3 G_3 pr) H := hP
        have hD : va_D A (ppW q h a0 a1 a2 a3 a4 a5 g b0 b1 cI fi_3 la_3 B_3 G_3 pr) := hD
        refine W.eq (g2 := F0 m 71 ls [.int (nI v_3)]) rfl ?_
        refine lv_iconst (v := 2) hx hb dL_isAsked_71 (by decide) ?_
        refine lv_aload_n hx hb dL_isAsked_72 rfl (lv_at hl 3 rfl) ?_
        refine pq_callV (wr := []) (own := RL) (nL := 8) (q0 := 0) (ci := 2) [0, 1, 2, 3, 4, 5, 6, 7, 8, 9, 10] [] [] (f_columns l D cI q h a0 a1 a2 a3 a4 a5 g b0 b1 I_3) ⟨hx, hb, hml, hown, hts⟩ (cwV 0 hts gL_isAsked_X2_columns rfl rfl rfl (by decide +kernel) ⟨by dsimp only [pq_R]; omega, by dsimp only [pq_R]; omega⟩) pq_blE (hE.call hD hS hA [0, 1, 2, 3, 4, 5, 6, 7, 8, 9, 10] rfl) hK hP hD hS hA rfl (by decide) rfl (by decide) (by decide) rfl rfl rfl rfl hl.1 rfl (Nat.le_of_ble_eq_true rfl) dL_isAsked_73 ⟨by dsimp only [pq_R]; omega, by dsimp only [pq_R]; omega⟩ (fun v w1 H locs hq hP hD hS hz => ?_)
        obtain ⟨rfl, rfl⟩ := hq
        have hP : va_P D vwCl (ppW q h a0 a1 a2 a3 a4 a5 g b0 b1 cI fi_3 la_3 B_3 G_3 pr) H := hP
        have hD : va_D A (ppW q h a0 a1 a2 a3 a4 a5 g b0 b1 cI fi_3 la_3 B_3 G_3 pr) := hD
        refine W.eq (g2 := F0 m 76 ls [.int (nI N), .int 2, .int (nI v_3)]) rfl ?_
        refine lv_imul hx hb dL_isAsked_76 ?_
        refine pq_top (nI (2 * N)) (pk_mul 2 _) ?_
        refine lv_icmp_gt (tgt := 95) hx hb dL_isAsked_77 (by decide) (fun c9 => absurd c9 (nI_nlt (a := (2 * N)) (b := v_3) (by omega) (by omega))) (fun _ => ?_)
        refine lv_aload_n hx hb dL_isAsked_80 rfl (lv_at hl 3 rfl) ?_
        refine lv_iload_n hx hb dL_isAsked_81 rfl (lv_at hl 4 rfl) ?_
        refine lv_iload_n hx hb dL_isAsked_82 rfl (lv_at hl 5 rfl) ?_
        refine pq_callV (wr := []) (own := RL) (nL := 8) (q0 := 0) (ci := 2) [0, 1, 2, 3, 4, 5, 6, 7, 8, 9, 10] [] [.int (nI kf), .int (nI kt)] (f_top l D cI q h a0 a1 a2 a3 a4 a5 g b0 b1 I_3 (kf := kf) (kt := kt) (by omega) (by omega)) ⟨hx, hb, hml, hown, hts⟩ (cwV 2 hts gL_isAsked_X2_top rfl rfl rfl (by decide +kernel) ⟨by dsimp only [pq_R]; omega, by dsimp only [pq_R]; omega⟩) pq_blE (hE.call hD hS hA [0, 1, 2, 3, 4, 5, 6, 7, 8, 9, 10] rfl) hK hP hD hS hA rfl (by decide) rfl (by decide) (by decide) rfl rfl rfl rfl hl.1 rfl (Nat.le_of_ble_eq_true rfl) dL_isAsked_83 ⟨by dsimp only [pq_R]; omega, by dsimp only [pq_R]; omega⟩ (fun v w1 H locs hq hP hD hS hz => ?_)
        obtain ⟨v_7, fi_7, la_7, B_7, G_7, n_7, m_7, rfl, rfl, I_7⟩ := hq
        have hP : va_P D vwCl (ppW q h a0 a1 a2 a3 a4 a5 g b0 b1 cI fi_7 la_7 B_7 G_7 pr) H := hP
        have hD : va_D A (ppW q h a0 a1 a2 a3 a4 a5 g b0 b1 cI fi_7 la_7 B_7 G_7 pr) := hD
        refine W.eq (g2 := F0 m 86 ls [.int (nI (nMax hs kf (kt + 1 - kf)))]) rfl ?_
        refine lv_iload hx hb dL_isAsked_86 (lv_at hl 1 rfl) ?_
        refine lv_icmp_ne (tgt := 95) hx hb dL_isAsked_88 (by decide) (fun c9 => absurd ((nI_eq (a := (nMax hs kf (kt + 1 - kf))) (b := mo) (by omega) (by omega)).mpr (by omega)) c9) (fun _ => ?_)
        refine lv_iconst (v := 1) hx hb dL_isAsked_91 (by decide) ?_
        refine lv_goto (tgt := 96) hx hb dL_isAsked_92 (by decide) ?_
        refine lv_istore (lv' := [(5, .int 1), (4, .int (nI mo)), (3, .int (nI (nSum hs kf 0 (kt + 1 - kf)))), (0, .ref q), (1, .int (nI kf)), (2, .int (nI kt))]) hx hb dL_isAsked_96 hl (by decide) rfl (fun ls hl => ?_)
        refine lv_iload_n hx hb dL_isAsked_98 rfl (lv_at hl 2 rfl) ?_
        rcases Nat.lt_or_ge 0 (nSum hs kf 0 (kt + 1 - kf)) with k_8 | k_8
        · refine lv_if_le (tgt := 159) hx hb dL_isAsked_99 (by decide) (fun c9 => absurd c9 ((nI_ge (a := 0) (b := (nSum hs kf 0 (kt + 1 - kf))) k_8 (by omega)))) (fun _ => ?_)
          refine lv_iconst (v := 1) hx hb dL_isAsked_102 (by decide) ?_
          refine lv_iload_n hx hb dL_isAsked_103 rfl (lv_at hl 2 rfl) ?_
          refine lv_iconst (v := 3) hx hb dL_isAsked_104 (by decide) ?_
          refine lv_idiv hx hb dL_isAsked_105 (by decide) ?_
          refine pq_top (nI ((nSum hs kf 0 (kt + 1 - kf)) / 3)) (pk_div (d := 3) (by omega) (by decide) (by decide)) ?_
          refine lv_iadd hx hb dL_isAsked_106 ?_
          refine pq_top (nI (1 + ((nSum hs kf 0 (kt + 1 - kf)) / 3))) (nI_add 1 _) ?_
          refine lv_istore (lv' := [(6, .int (nI (1 + ((nSum hs kf 0 (kt + 1 - kf)) / 3)))), (5, .int 1), (4, .int (nI mo)), (3, .int (nI (nSum hs kf 0 (kt + 1 - kf)))), (0, .ref q), (1, .int (nI kf)), (2, .int (nI kt))]) hx hb dL_isAsked_107 hl (by decide) rfl (fun ls hl => ?_)
          refine lv_aload_n hx hb dL_isAsked_109 rfl (lv_at hl 4 rfl) ?_
          refine lv_iload_n hx hb dL_isAsked_110 rfl (lv_at hl 5 rfl) ?_
          refine lv_iload_n hx hb dL_isAsked_111 rfl (lv_at hl 6 rfl) ?_
          refine lv_iload hx hb dL_isAsked_112 (lv_at hl 0 rfl) ?_
          refine pq_callV (wr := []) (own := RL) (nL := 8) (q0 := 0) (ci := 2) [0, 1, 2, 3, 4, 5, 6, 7, 8, 9, 10] [] [.int (nI kf), .int (nI kt), .int (nI (1 + ((nSum hs kf 0 (kt + 1 - kf)) / 3)))] (f_ceilingFor l D cI q h a0 a1 a2 a3 a4 a5 g b0 b1 I_7 (kf := kf) (kt := kt) (w0 := (1 + ((nSum hs kf 0 (kt + 1 - kf)) / 3))) (by omega) (by omega) (by omega) (by omega)) ⟨hx, hb, hml, hown, hts⟩ (cwV 3 hts gL_isAsked_X2_ceilingFor rfl rfl rfl (by decide +kernel) ⟨by dsimp only [pq_R]; omega, by dsimp only [pq_R]; omega⟩) pq_blE (hE.call hD hS hA [0, 1, 2, 3, 4, 5, 6, 7, 8, 9, 10] rfl) hK hP hD hS hA rfl (by decide) rfl (by decide) (by decide) rfl rfl rfl rfl hl.1 rfl (Nat.le_of_ble_eq_true rfl) dL_isAsked_114 ⟨by dsimp only [pq_R]; omega, by dsimp only [pq_R]; omega⟩ (fun v w1 H locs hq hP hD hS hz => ?_)
          obtain ⟨r_9, ra_9, rb_9, rc_9, rfl, rfl⟩ := hq
          have hP : va_P D vwCl (ppW q h a0 a1 a2 a3 a4 a5 g b0 b1 cI fi_7 la_7 B_7 G_7 pr) H := hP
          have hD : va_D A (ppW q h a0 a1 a2 a3 a4 a5 g b0 b1 cI fi_7 la_7 B_7 G_7 pr) := hD
          refine W.eq (g2 := F0 m 117 ls [.int (nI r_9)]) rfl ?_
          refine lv_istore (lv' := [(7, .int (nI r_9)), (6, .int (nI (1 + ((nSum hs kf 0 (kt + 1 - kf)) / 3)))), (5, .int 1), (4, .int (nI mo)), (3, .int (nI (nSum hs kf 0 (kt + 1 - kf)))), (0, .ref q), (1, .int (nI kf)), (2, .int (nI kt))]) hx hb dL_isAsked_117 hl (by decide) rfl (fun ls hl => ?_)
          refine lv_iload hx hb dL_isAsked_119 (lv_at hl 2 rfl) ?_
          refine lv_if_eq (tgt := 156) hx hb dL_isAsked_121 (by decide) (fun c9 => absurd c9 (by decide)) (fun _ => ?_)
          refine lv_aload_n hx hb dL_isAsked_124 rfl (lv_at hl 5 rfl) ?_
          refine lv_iload_n hx hb dL_isAsked_125 rfl (lv_at hl 6 rfl) ?_
          refine lv_iload_n hx hb dL_isAsked_126 rfl (lv_at hl 7 rfl) ?_
          refine lv_iload hx hb dL_isAsked_127 (lv_at hl 0 rfl) ?_
          refine pq_callV (wr := []) (own := RL) (nL := 8) (q0 := 0) (ci := 2) [0, 1, 2, 3, 4, 5, 6, 7, 8, 9, 10] [] [.int (nI kf), .int (nI kt), .int (nI r_9)] (f_wouldPress l D cI q h a0 a1 a2 a3 a4 a5 g b0 b1 I_7 (kf := kf) (kt := kt) (c0 := r_9) (by omega) (by omega) (by omega)) ⟨hx, hb, hml, hown, hts⟩ (cwV 3 hts gL_isAsked_X2_wouldPress rfl rfl rfl (by decide +kernel) ⟨by dsimp only [pq_R]; omega, by dsimp only [pq_R]; omega⟩) pq_blE (hE.call hD hS hA [0, 1, 2, 3, 4, 5, 6, 7, 8, 9, 10] rfl) hK hP hD hS hA rfl (by decide) rfl (by decide) (by decide) rfl rfl rfl rfl hl.1 rfl (Nat.le_of_ble_eq_true rfl) dL_isAsked_129 ⟨by dsimp only [pq_R]; omega, by dsimp only [pq_R]; omega⟩ (fun v w1 H locs hq hP hD hS hz => ?_)
          obtain ⟨rfl, rfl⟩ := hq
          have b_10 := j_sum_b (c := r_9) I_7 (f := kf) (t := kt) (by omega) (by omega)
          have hP : va_P D vwCl (ppW q h a0 a1 a2 a3 a4 a5 g b0 b1 cI fi_7 la_7 B_7 G_7 pr) H := hP
          have hD : va_D A (ppW q h a0 a1 a2 a3 a4 a5 g b0 b1 cI fi_7 la_7 B_7 G_7 pr) := hD
          refine W.eq (g2 := F0 m 132 ls [.int (nI (nSum hs kf r_9 (kt + 1 - kf)))]) rfl ?_
          refine lv_iload hx hb dL_isAsked_132 (lv_at hl 1 rfl) ?_
          refine lv_icmp_lt (tgt := 156) hx hb dL_isAsked_134 (by decide) (fun c9 => absurd c9 (nI_nlt (a := (nSum hs kf r_9 (kt + 1 - kf))) (b := (1 + ((nSum hs kf 0 (kt + 1 - kf)) / 3))) (by omega) (by omega))) (fun _ => ?_)
          refine lv_aload_n hx hb dL_isAsked_137 rfl (lv_at hl 5 rfl) ?_
          refine lv_iload_n hx hb dL_isAsked_138 rfl (lv_at hl 6 rfl) ?_
          refine lv_iload_n hx hb dL_isAsked_139 rfl (lv_at hl 7 rfl) ?_
          refine lv_iload hx hb dL_isAsked_140 (lv_at hl 0 rfl) ?_
          refine lv_iconst (v := 1) hx hb dL_isAsked_142 (by decide) ?_
          refine lv_iadd hx hb dL_isAsked_143 ?_
          refine pq_top (nI (r_9 + 1)) (nI_1 _) ?_
          refine pq_callV (wr := []) (own := RL) (nL := 8) (q0 := 0) (ci := 2) [0, 1, 2, 3, 4, 5, 6, 7, 8, 9, 10] [] [.int (nI kf), .int (nI kt), .int (nI (r_9 + 1))] (f_wouldPress l D cI q h a0 a1 a2 a3 a4 a5 g b0 b1 I_7 (kf := kf) (kt := kt) (c0 := (r_9 + 1)) (by omega) (by omega) (by omega)) ⟨hx, hb, hml, hown, hts⟩ (cwV 3 hts gL_isAsked_X2_wouldPress rfl rfl rfl (by decide +kernel) ⟨by dsimp only [pq_R]; omega, by dsimp only [pq_R]; omega⟩) pq_blE (hE.call hD hS hA [0, 1, 2, 3, 4, 5, 6, 7, 8, 9, 10] rfl) hK hP hD hS hA rfl (by decide) rfl (by decide) (by decide) rfl rfl rfl rfl hl.1 rfl (Nat.le_of_ble_eq_true rfl) dL_isAsked_144 ⟨by dsimp only [pq_R]; omega, by dsimp only [pq_R]; omega⟩ (fun v w1 H locs hq hP hD hS hz => ?_)
          obtain ⟨rfl, rfl⟩ := hq
          have b_11 := j_sum_b (c := (r_9 + 1)) I_7 (f := kf) (t := kt) (by omega) (by omega)
          have hP : va_P D vwCl (ppW q h a0 a1 a2 a3 a4 a5 g b0 b1 cI fi_7 la_7 B_7 G_7 pr) H := hP
          have hD : va_D A (ppW q h a0 a1 a2 a3 a4 a5 g b0 b1 cI fi_7 la_7 B_7 G_7 pr) := hD
          refine W.eq (g2 := F0 m 147 ls [.int (nI (nSum hs kf (r_9 + 1) (kt + 1 - kf)))]) rfl ?_
          refine lv_iload hx hb dL_isAsked_147 (lv_at hl 1 rfl) ?_
          refine lv_icmp_ge (tgt := 156) hx hb dL_isAsked_149 (by decide) (fun c9 => absurd c9 (nI_ge (a := (nSum hs kf (r_9 + 1) (kt + 1 - kf))) (b := (1 + ((nSum hs kf 0 (kt + 1 - kf)) / 3))) (by omega) (by omega))) (fun _ => ?_)
          refine lv_iconst (v := 1) hx hb dL_isAsked_152 (by decide) ?_
          refine lv_goto (tgt := 157) hx hb dL_isAsked_153 (by decide) ?_
          refine lv_istore (lv' := [(5, .int 1), (7, .int (nI r_9)), (6, .int (nI (1 + ((nSum hs kf 0 (kt + 1 - kf)) / 3)))), (4, .int (nI mo)), (3, .int (nI (nSum hs kf 0 (kt + 1 - kf)))), (0, .ref q), (1, .int (nI kf)), (2, .int (nI kt))]) hx hb dL_isAsked_157 hl (by decide) rfl (fun ls hl => ?_)
          refine lv_iload hx hb dL_isAsked_159 (lv_at hl 0 rfl) ?_
          refine lv_if_eq (tgt := 178) hx hb dL_isAsked_161 (by decide) (fun c9 => absurd c9 (by decide)) (fun _ => ?_)
          refine lv_aload_n hx hb dL_isAsked_164 rfl (lv_at hl 5 rfl) ?_
          refine lv_iload_n hx hb dL_isAsked_165 rfl (lv_at hl 6 rfl) ?_
          refine lv_iload_n hx hb dL_isAsked_166 rfl (lv_at hl 7 rfl) ?_
          refine pq_callV (wr := []) (own := RL) (nL := 8) (q0 := 0) (ci := 2) [0, 1, 2, 3, 4, 5, 6, 7, 8, 9, 10] [] [.int (nI kf), .int (nI kt)] (f_earthByColumns l D cI q h a0 a1 a2 a3 a4 a5 g b0 b1 I_7 (kf := kf) (kt := kt) (by omega) (by omega)) ⟨hx, hb, hml, hown, hts⟩ (cwV 2 hts gL_isAsked_X2_earthByColumns rfl rfl rfl (by decide +kernel) ⟨by dsimp only [pq_R]; omega, by dsimp only [pq_R]; omega⟩) pq_blE (hE.call hD hS hA [0, 1, 2, 3, 4, 5, 6, 7, 8, 9, 10] rfl) hK hP hD hS hA rfl (by decide) rfl (by decide) (by decide) rfl rfl rfl rfl hl.1 rfl (Nat.le_of_ble_eq_true rfl) dL_isAsked_167 ⟨by dsimp only [pq_R]; omega, by dsimp only [pq_R]; omega⟩ (fun v w1 H locs hq hP hD hS hz => ?_)
          obtain ⟨rfl, rfl⟩ := hq
          have b_12 := j_sum_b (c := 0) I_7 (f := kf) (t := kt) (by omega) (by omega)
          have hP : va_P D vwCl (ppW q h a0 a1 a2 a3 a4 a5 g b0 b1 cI fi_7 la_7 B_7 G_7 pr) H := hP
          have hD : va_D A (ppW q h a0 a1 a2 a3 a4 a5 g b0 b1 cI fi_7 la_7 B_7 G_7 pr) := hD
          refine W.eq (g2 := F0 m 170 ls [.int (nI (nSum hs kf 0 (kt + 1 - kf)))]) rfl ?_
          refine lv_iload_n hx hb dL_isAsked_170 rfl (lv_at hl 4 rfl) ?_
          refine lv_icmp_ne (tgt := 178) hx hb dL_isAsked_171 (by decide) (fun c9 => absurd ((nI_eq (a := (nSum hs kf 0 (kt + 1 - kf))) (b := (nSum hs kf 0 (kt + 1 - kf))) (by omega) (by omega)).mpr (by omega)) c9) (fun _ => ?_)
          refine lv_iconst (v := 1) hx hb dL_isAsked_174 (by decide) ?_
          refine lv_goto (tgt := 179) hx hb dL_isAsked_175 (by decide) ?_
          exact pq_zret hQ hx hb hr hlocks hK hS hP hD dL_isAsked_179 (by omega) (by omega) (by decide) (⟨rfl, _, _, _, _, _, _, _, _, _, _, _, rfl, I_7, by omega⟩)
        · refine lv_if_le (tgt := 159) hx hb dL_isAsked_99 (by decide) (fun _ => ?_) (fun c9 => absurd ((nI_le (a := (nSum hs kf 0 (kt + 1 - kf))) (b := 0) k_8 (by omega))) c9)
          refine lv_iload hx hb dL_isAsked_159 (lv_at hl 0 rfl) ?_
          refine lv_if_eq (tgt := 178) hx hb dL_isAsked_161 (by decide) (fun c9 => absurd c9 (by decide)) (fun _ => ?_)
          refine lv_aload_n hx hb dL_isAsked_164 rfl (lv_at hl 3 rfl) ?_
          refine lv_iload_n hx hb dL_isAsked_165 rfl (lv_at hl 4 rfl) ?_
          refine lv_iload_n hx hb dL_isAsked_166 rfl (lv_at hl 5 rfl) ?_
          refine pq_callV (wr := []) (own := RL) (nL := 8) (q0 := 0) (ci := 2) [0, 1, 2, 3, 4, 5, 6, 7, 8, 9, 10] [] [.int (nI kf), .int (nI kt)] (f_earthByColumns l D cI q h a0 a1 a2 a3 a4 a5 g b0 b1 I_7 (kf := kf) (kt := kt) (by omega) (by omega)) ⟨hx, hb, hml, hown, hts⟩ (cwV 2 hts gL_isAsked_X2_earthByColumns rfl rfl rfl (by decide +kernel) ⟨by dsimp only [pq_R]; omega, by dsimp only [pq_R]; omega⟩) pq_blE (hE.call hD hS hA [0, 1, 2, 3, 4, 5, 6, 7, 8, 9, 10] rfl) hK hP hD hS hA rfl (by decide) rfl (by decide) (by decide) rfl rfl rfl rfl hl.1 rfl (Nat.le_of_ble_eq_true rfl) dL_isAsked_167 ⟨by dsimp only [pq_R]; omega, by dsimp only [pq_R]; omega⟩ (fun v w1 H locs hq hP hD hS hz => ?_)
          obtain ⟨rfl, rfl⟩ := hq
          have b_13 := j_sum_b (c := 0) I_7 (f := kf) (t := kt) (by omega) (by omega)
          have hP : va_P D vwCl (ppW q h a0 a1 a2 a3 a4 a5 g b0 b1 cI fi_7 la_7 B_7 G_7 pr) H := hP
          have hD : va_D A (ppW q h a0 a1 a2 a3 a4 a5 g b0 b1 cI fi_7 la_7 B_7 G_7 pr) := hD
          refine W.eq (g2 := F0 m 170 ls [.int (nI (nSum hs kf 0 (kt + 1 - kf)))]) rfl ?_
          refine lv_iload_n hx hb dL_isAsked_170 rfl (lv_at hl 2 rfl) ?_
          refine lv_icmp_ne (tgt := 178) hx hb dL_isAsked_171 (by decide) (fun c9 => absurd ((nI_eq (a := (nSum hs kf 0 (kt + 1 - kf))) (b := (nSum hs kf 0 (kt + 1 - kf))) (by omega) (by omega)).mpr (by omega)) c9) (fun _ => ?_)
          refine lv_iconst (v := 1) hx hb dL_isAsked_174 (by decide) ?_
          refine lv_goto (tgt := 179) hx hb dL_isAsked_175 (by decide) ?_
          exact pq_zret hQ hx hb hr hlocks hK hS hP hD dL_isAsked_179 (by omega) (by omega) (by decide) (⟨rfl, _, _, _, _, _, _, _, _, _, _, _, rfl, I_7, by omega⟩)
      · refine lv_icmp_gt (tgt := 49) hx hb dL_isAsked_16 (by decide) (fun c9 => absurd c9 ((nI_nlt (a := kt) (b := kk) k_2 (by omega)))) (fun _ => ?_)
        refine lv_aload_n hx hb dL_isAsked_19 rfl (lv_at hl 3 rfl) ?_
        refine lv_iload hx hb dL_isAsked_20 (lv_at hl 0 rfl) ?_
        refine pq_callV (wr := []) (own := RL) (nL := 8) (q0 := 0) (ci := 2) [0, 1, 2, 3, 4, 5, 6, 7, 8, 9, 10] [] [.int (nI kk)] (f_heightOfColumn l D cI q h a0 a1 a2 a3 a4 a5 g b0 b1 I (kx := kk) (by omega)) ⟨hx, hb, hml, hown, hts⟩ (cwV 1 hts gL_isAsked_X2_heightOfColumn rfl rfl rfl (by decide +kernel) ⟨by dsimp only [pq_R]; omega, by dsimp only [pq_R]; omega⟩) pq_blE (hE.call hD hS hA [0, 1, 2, 3, 4, 5, 6, 7, 8, 9, 10] rfl) hK hP hD hS hA rfl (by decide) rfl (by decide) (by decide) rfl rfl rfl rfl hl.1 rfl (Nat.le_of_ble_eq_true rfl) dL_isAsked_22 ⟨by dsimp only [pq_R]; omega, by dsimp only [pq_R]; omega⟩ (fun v w1 H locs hq hP hD hS hz => ?_)
        obtain ⟨rfl, rfl⟩ := hq
        have b_14 := (I.2.2.2.2.2.2.1 kk (by omega)).1
        have hP : va_P D vwCl (ppW q h a0 a1 a2 a3 a4 a5 g b0 b1 cI fi la B G pr) H := hP
        have hD : va_D A (ppW q h a0 a1 a2 a3 a4 a5 g b0 b1 cI fi la B G pr) := hD
        refine W.eq (g2 := F0 m 25 ls [.int (nI (hs kk))]) rfl ?_
        refine lv_iload hx hb dL_isAsked_25 (lv_at hl 1 rfl) ?_
        rcases Nat.lt_or_ge mo (hs kk) with k_15 | k_15
        · refine lv_icmp_le (tgt := 39) hx hb dL_isAsked_27 (by decide) (fun c9 => absurd c9 ((nI_ge (a := mo) (b := (hs kk)) k_15 (by omega)))) (fun _ => ?_)
          refine lv_aload_n hx hb dL_isAsked_30 rfl (lv_at hl 3 rfl) ?_
          refine lv_iload hx hb dL_isAsked_31 (lv_at hl 0 rfl) ?_
          refine pq_callV (wr := []) (own := RL) (nL := 8) (q0 := 0) (ci := 2) [0, 1, 2, 3, 4, 5, 6, 7, 8, 9, 10] [] [.int (nI kk)] (f_heightOfColumn l D cI q h a0 a1 a2 a3 a4 a5 g b0 b1 I (kx := kk) (by omega)) ⟨hx, hb, hml, hown, hts⟩ (cwV 1 hts gL_isAsked_X2_heightOfColumn rfl rfl rfl (by decide +kernel) ⟨by dsimp only [pq_R]; omega, by dsimp only [pq_R]; omega⟩) pq_blE (hE.call hD hS hA [0, 1, 2, 3, 4, 5, 6, 7, 8, 9, 10] rfl) hK hP hD hS hA rfl (by decide) rfl (by decide) (by decide) rfl rfl rfl rfl hl.1 rfl (Nat.le_of_ble_eq_true rfl) dL_isAsked_33 ⟨by dsimp only [pq_R]; omega, by dsimp only [pq_R]; omega⟩ (fun v w1 H locs hq hP hD hS hz => ?_)
          obtain ⟨rfl, rfl⟩ := hq
          have b_16 := (I.2.2.2.2.2.2.1 kk (by omega)).1
          have hP : va_P D vwCl (ppW q h a0 a1 a2 a3 a4 a5 g b0 b1 cI fi la B G pr) H := hP
          have hD : va_D A (ppW q h a0 a1 a2 a3 a4 a5 g b0 b1 cI fi la B G pr) := hD
          refine W.eq (g2 := F0 m 36 ls [.int (nI (hs kk))]) rfl ?_
          refine lv_goto (tgt := 41) hx hb dL_isAsked_36 (by decide) ?_
          refine lv_istore (lv' := [(4, .int (nI (hs kk))), (5, .int (nI kk)), (3, .int (nI (nSum hs kf 0 (kt + 1 - kf)))), (0, .ref q), (1, .int (nI kf)), (2, .int (nI kt))]) hx hb dL_isAsked_41 hl (by decide) rfl (fun ls hl => ?_)
          refine lv_iinc (v := nI (kk + 1)) (lv' := [(5, .int (nI (kk + 1))), (4, .int (nI (hs kk))), (3, .int (nI (nSum hs kf 0 (kt + 1 - kf)))), (0, .ref q), (1, .int (nI kf)), (2, .int (nI kt))]) hx hb dL_isAsked_43 hl (k := 1) rfl (nI_add _ 1) (by decide) rfl (fun ls hl => ?_)
          refine lv_goto (tgt := 13) hx hb dL_isAsked_46 (by decide) ?_
          exact ihLP (kk + 1) (hs kk) (by omega) (by omega) (by omega) (by rw [nMax_s h1, ← hmo]; omega) (by omega) H locs ls hP hD hS (lv_sub hl [0, 1, 2, 3, 4, 5] rfl)
        · refine lv_icmp_le (tgt := 39) hx hb dL_isAsked_27 (by decide) (fun _ => ?_) (fun c9 => absurd ((nI_le (a := (hs kk)) (b := mo) k_15 (by omega))) c9)
          refine lv_iload hx hb dL_isAsked_39 (lv_at hl 1 rfl) ?_
          refine lv_istore (lv' := [(4, .int (nI mo)), (5, .int (nI kk)), (3, .int (nI (nSum hs kf 0 (kt + 1 - kf)))), (0, .ref q), (1, .int (nI kf)), (2, .int (nI kt))]) hx hb dL_isAsked_41 hl (by decide) rfl (fun ls hl => ?_)
          refine lv_iinc (v := nI (kk + 1)) (lv' := [(5, .int (nI (kk + 1))), (4, .int (nI mo)), (3, .int (nI (nSum hs kf 0 (kt + 1 - kf)))), (0, .ref q), (1, .int (nI kf)), (2, .int (nI kt))]) hx hb dL_isAsked_43 hl (k := 1) rfl (nI_add _ 1) (by decide) rfl (fun ls hl => ?_)
          refine lv_goto (tgt := 13) hx hb dL_isAsked_46 (by decide) ?_
          exact ihLP (kk + 1) mo (by omega) (by omega) (by omega) (by rw [nMax_s h1, ← hmo]; omega) (by omega) H locs ls hP hD hS (lv_sub hl [0, 1, 2, 3, 4, 5] rfl)
  exact LP _ kf 0 (Nat.lt_succ_self _) (Nat.le_refl _) (by omega) (by rw [Nat.sub_self]; rfl) (by omega) H locs ls hP hD hS (lv_sub hl [0, 1, 2, 3, 4, 5] rfl)

set_option maxHeartbeats 4000000 in
set_option maxRecDepth 100000 in
theorem mL_isLowered (l : Launch) (D : va_G) (cI : ClassId) (q h a0 a1 a2 a3 a4 a5 g b0 b1 : Nat) {N : Nat} {hs cs : Nat → Nat} {vis tot cal : Nat} {fi la : Nat → Int32} {B : BK} {G : GK} {pr : Int32} (I : J N hs cs vis tot cal fi la B G pr) (ht : tot ≤ 100000) {kf kt c0 : Nat} (hft : kf ≤ kt) (htN : kt < N) (hc0 : c0 ≤ 1000) : pq_M l yL_isLowered wsL_isLowered 14 337 0 0 D [(cI, .int)] pq_Ev (ppW q h a0 a1 a2 a3 a4 a5 g b0 b1 cI fi la B G pr) [.ref q, .int (nI kf), .int (nI kt), .int (nI c0)] (Lp q h a0 a1 a2 a3 a4 a5 g b0 b1 cI (tot + 256)) := by
  refine pq_enter (cc := cL_isLowered) (maxL := 8) (ret := (some .boolean)) (by decide) rfl (Nat.le_of_ble_eq_true rfl) ?_
  intro p ev s m args below meth cd A ls Q H locs hx hb hr hml hts hown hlocks hnm hK hP hD hS hA hE hl hQ
  have hl : lv_has ls 8 [(0, .ref q), (1, .int (nI kf)), (2, .int (nI kt)), (3, .int (nI c0))] := hl
  have hP : va_P D vwCl (ppW q h a0 a1 a2 a3 a4 a5 g b0 b1 cI fi la B G pr) H := hP
  have hD : va_D A (ppW q h a0 a1 a2 a3 a4 a5 g b0 b1 cI fi la B G pr) := hD
  have hN1 := I.1
  have hN2 := I.2.1
  refine lv_aload_n hx hb dL_isLowered_0 rfl (lv_at hl 0 rfl) ?_
  refine lv_iload_n hx hb dL_isLowered_1 rfl (lv_at hl 1 rfl) ?_
  refine lv_iload_n hx hb dL_isLowered_2 rfl (lv_at hl 2 rfl) ?_
  refine lv_iload_n hx hb dL_isLowered_3 rfl (lv_at hl 3 rfl) ?_
  refine pq_callV (wr := []) (own := RL) (nL := 8) (q0 := 0) (ci := 2) [0, 1, 2, 3, 4, 5, 6, 7, 8, 9, 10] [] [.int (nI kf), .int (nI kt), .int (nI c0)] (f_wouldPress l D cI q h a0 a1 a2 a3 a4 a5 g b0 b1 I (kf := kf) (kt := kt) (c0 := c0) (by omega) (by omega) (by omega)) ⟨hx, hb, hml, hown, hts⟩ (cwV 3 hts gL_isLowered_X2_wouldPress rfl rfl rfl (by decide +kernel) ⟨by dsimp only [pq_R]; omega, by dsimp only [pq_R]; omega⟩) pq_blE (hE.call hD hS hA [0, 1, 2, 3, 4, 5, 6, 7, 8, 9, 10] rfl) hK hP hD hS hA rfl (by decide) rfl (by decide) (by decide) rfl rfl rfl rfl hl.1 rfl (Nat.le_of_ble_eq_true rfl) dL_isLowered_4 ⟨by dsimp only [pq_R]; omega, by dsimp only [pq_R]; omega⟩ (fun v w1 H locs hq hP hD hS hz => ?_)
  obtain ⟨rfl, rfl⟩ := hq
  have b_1 := j_sum_b (c := c0) I (f := kf) (t := kt) (by omega) (by omega)
  have hP : va_P D vwCl (ppW q h a0 a1 a2 a3 a4 a5 g b0 b1 cI fi la B G pr) H := hP
  have hD : va_D A (ppW q h a0 a1 a2 a3 a4 a5 g b0 b1 cI fi la B G pr) := hD
  refine W.eq (g2 := F0 m 7 ls [.int (nI (nSum hs kf c0 (kt + 1 - kf)))]) rfl ?_
  refine lv_istore (lv' := [(4, .int (nI (nSum hs kf c0 (kt + 1 - kf)))), (0, .ref q), (1, .int (nI kf)), (2, .int (nI kt)), (3, .int (nI c0))]) hx hb dL_isLowered_7 hl (by decide) rfl (fun ls hl => ?_)
  refine lv_aload_n hx hb dL_isLowered_9 rfl (lv_at hl 1 rfl) ?_
  refine pq_callV (wr := []) (own := RL) (nL := 8) (q0 := 0) (ci := 2) [0, 1, 2, 3, 4, 5, 6, 7, 8, 9, 10] [] [] (f_pressedAway l D cI q h a0 a1 a2 a3 a4 a5 g b0 b1 I) ⟨hx, hb, hml, hown, hts⟩ (cwV 0 hts gL_isLowered_X2_pressedAway rfl rfl rfl (by decide +kernel) ⟨by dsimp only [pq_R]; omega, by dsimp only [pq_R]; omega⟩) pq_blE (hE.call hD hS hA [0, 1, 2, 3, 4, 5, 6, 7, 8, 9, 10] rfl) hK hP hD hS hA rfl (by decide) rfl (by decide) (by decide) rfl rfl rfl rfl hl.1 rfl (Nat.le_of_ble_eq_true rfl) dL_isLowered_10 ⟨by dsimp only [pq_R]; omega, by dsimp only [pq_R]; omega⟩ (fun v w1 H locs hq hP hD hS hz => ?_)
  obtain ⟨rfl, rfl⟩ := hq
  have hP : va_P D vwCl (ppW q h a0 a1 a2 a3 a4 a5 g b0 b1 cI fi la B G pr) H := hP
  have hD : va_D A (ppW q h a0 a1 a2 a3 a4 a5 g b0 b1 cI fi la B G pr) := hD
  refine W.eq (g2 := F0 m 13 ls [.int pr]) rfl ?_
  refine lv_istore (lv' := [(5, .int pr), (4, .int (nI (nSum hs kf c0 (kt + 1 - kf)))), (0, .ref q), (1, .int (nI kf)), (2, .int (nI kt)), (3, .int (nI c0))]) hx hb dL_isLowered_13 hl (by decide) rfl (fun ls hl => ?_)
  refine lv_aload_n hx hb dL_isLowered_15 rfl (lv_at hl 2 rfl) ?_
  refine pq_callV (wr := []) (own := RL) (nL := 8) (q0 := 0) (ci := 2) [0, 1, 2, 3, 4, 5, 6, 7, 8, 9, 10] [] [] (f_allVisits l D cI q h a0 a1 a2 a3 a4 a5 g b0 b1 I) ⟨hx, hb, hml, hown, hts⟩ (cwV 0 hts gL_isLowered_X2_allVisits rfl rfl rfl (by decide +kernel) ⟨by dsimp only [pq_R]; omega, by dsimp only [pq_R]; omega⟩) pq_blE (hE.call hD hS hA [0, 1, 2, 3, 4, 5, 6, 7, 8, 9, 10] rfl) hK hP hD hS hA rfl (by decide) rfl (by decide) (by decide) rfl rfl rfl rfl hl.1 rfl (Nat.le_of_ble_eq_true rfl) dL_isLowered_16 ⟨by dsimp only [pq_R]; omega, by dsimp only [pq_R]; omega⟩ (fun v w1 H locs hq hP hD hS hz => ?_)
  obtain ⟨rfl, rfl⟩ := hq
  have hP : va_P D vwCl (ppW q h a0 a1 a2 a3 a4 a5 g b0 b1 cI fi la B G pr) H := hP
  have hD : va_D A (ppW q h a0 a1 a2 a3 a4 a5 g b0 b1 cI fi la B G pr) := hD
  refine W.eq (g2 := F0 m 19 ls [.int (nI tot)]) rfl ?_
  refine lv_istore (lv' := [(6, .int (nI tot)), (5, .int pr), (4, .int (nI (nSum hs kf c0 (kt + 1 - kf)))), (0, .ref q), (1, .int (nI kf)), (2, .int (nI kt)), (3, .int (nI c0))]) hx hb dL_isLowered_19 hl (by decide) rfl (fun ls hl => ?_)
  refine lv_aload_n hx hb dL_isLowered_21 rfl (lv_at hl 3 rfl) ?_
  refine lv_iload_n hx hb dL_isLowered_22 rfl (lv_at hl 4 rfl) ?_
  refine lv_iload_n hx hb dL_isLowered_23 rfl (lv_at hl 5 rfl) ?_
  refine lv_iload_n hx hb dL_isLowered_24 rfl (lv_at hl 6 rfl) ?_
  refine pq_callV (wr := []) (own := RL) (nL := 8) (q0 := 0) (ci := 2) [0, 1, 2, 3, 4, 5, 6, 7, 8, 9, 10] [] [.int (nI kf), .int (nI kt), .int (nI c0)] (f_lower l D cI q h a0 a1 a2 a3 a4 a5 g b0 b1 I (kf := kf) (kt := kt) (c0 := c0) (by omega) (by omega) (by omega)) ⟨hx, hb, hml, hown, hts⟩ (cwV 3 hts gL_isLowered_X2_lower rfl rfl rfl (by decide +kernel) ⟨by dsimp only [pq_R]; omega, by dsimp only [pq_R]; omega⟩) pq_blE (hE.call hD hS hA [0, 1, 2, 3, 4, 5, 6, 7, 8, 9, 10] rfl) hK hP hD hS hA rfl (by decide) rfl (by decide) (by decide) rfl rfl rfl rfl hl.1 rfl (Nat.le_of_ble_eq_true rfl) dL_isLowered_25 ⟨by dsimp only [pq_R]; omega, by dsimp only [pq_R]; omega⟩ (fun v w1 H locs hq hP hD hS hz => ?_)
  obtain ⟨v_4, fi_4, la_4, B_4, G_4, pr_4, n_4, m_4, rfl, rfl, rfl, I_4⟩ := hq
  obtain ⟨hs_4, hh_4⟩ : ∃ z : Nat → Nat, z = (fun k => if kf ≤ k ∧ k ≤ kt then min (hs k) c0 else hs k) := ⟨_, rfl⟩
  obtain ⟨cs_4, hc_4⟩ : ∃ z : Nat → Nat, z = (fun k => if kf ≤ k ∧ k ≤ kt then (if cs k = 0 ∨ c0 + 1 < cs k then c0 + 1 else cs k) else cs k) := ⟨_, rfl⟩
  rw [← hh_4, ← hc_4] at I_4
  have hP : va_P D vwCl (ppW q h a0 a1 a2 a3 a4 a5 g b0 b1 cI fi_4 la_4 B_4 G_4 (pr + (nI (nSum hs kf c0 (kt + 1 - kf))))) H := hP
  have hD : va_D A (ppW q h a0 a1 a2 a3 a4 a5 g b0 b1 cI fi_4 la_4 B_4 G_4 (pr + (nI (nSum hs kf c0 (kt + 1 - kf))))) := hD
  refine W.eq (g2 := F0 m 28 ls [.int (nI (nSum hs kf c0 (kt + 1 - kf)))]) rfl ?_
  have z_4 : nSum hs_4 kf c0 (kt + 1 - kf) = 0 := nSum_0 (fun k a b => by rw [hh_4]; dsimp only; rw [if_pos (by omega)]; omega)
  have y_4 : 1 ≤ cs_4 kf ∧ cs_4 kf ≤ c0 + 1 := by rw [hc_4]; dsimp only; rw [if_pos (by omega)]; split <;> omega
  have x_4 : 1 ≤ cs_4 kt ∧ cs_4 kt ≤ c0 + 1 := by rw [hc_4]; dsimp only; rw [if_pos (by omega)]; split <;> omega
  have w_4 := (I_4.2.2.2.2.2.2.2.1 kt (by omega)).2.2
  refine lv_iload hx hb dL_isLowered_28 (lv_at hl 2 rfl) ?_
  refine lv_icmp_ne (tgt := 59) hx hb dL_isLowered_30 (by decide) (fun c9 => absurd ((nI_eq (a := (nSum hs kf c0 (kt + 1 - kf))) (b := (nSum hs kf c0 (kt + 1 - kf))) (by omega) (by omega)).mpr (by omega)) c9) (fun _ => ?_)
  refine lv_aload_n hx hb dL_isLowered_33 rfl (lv_at hl 3 rfl) ?_
  refine lv_iload_n hx hb dL_isLowered_34 rfl (lv_at hl 4 rfl) ?_
  refine lv_iload_n hx hb dL_isLowered_35 rfl (lv_at hl 5 rfl) ?_
  refine lv_iload_n hx hb dL_isLowered_36 rfl (lv_at hl 6 rfl) ?_
  refine pq_callV (wr := []) (own := RL) (nL := 8) (q0 := 0) (ci := 2) [0, 1, 2, 3, 4, 5, 6, 7, 8, 9, 10] [] [.int (nI kf), .int (nI kt), .int (nI c0)] (f_wouldPress l D cI q h a0 a1 a2 a3 a4 a5 g b0 b1 I_4 (kf := kf) (kt := kt) (c0 := c0) (by omega) (by omega) (by omega)) ⟨hx, hb, hml, hown, hts⟩ (cwV 3 hts gL_isLowered_X2_wouldPress rfl rfl rfl (by decide +kernel) ⟨by dsimp only [pq_R]; omega, by dsimp only [pq_R]; omega⟩) pq_blE (hE.call hD hS hA [0, 1, 2, 3, 4, 5, 6, 7, 8, 9, 10] rfl) hK hP hD hS hA rfl (by decide) rfl (by decide) (by decide) rfl rfl rfl rfl hl.1 rfl (Nat.le_of_ble_eq_true rfl) dL_isLowered_37 ⟨by dsimp only [pq_R]; omega, by dsimp only [pq_R]; omega⟩ (fun v w1 H locs hq hP hD hS hz => ?_)
  obtain ⟨rfl, rfl⟩ := hq
  have b_5 := j_sum_b (c := c0) I_4 (f := kf) (t := kt) (by omega) (by omega)
  have hP : va_P D vwCl (ppW q h a0 a1 a2 a3 a4 a5 g b0 b1 cI fi_4 la_4 B_4 G_4 (pr + (nI (nSum hs kf c0 (kt + 1 - kf))))) H := hP
  have hD : va_D A (ppW q h a0 a1 a2 a3 a4 a5 g b0 b1 cI fi_4 la_4 B_4 G_4 (pr + (nI (nSum hs kf c0 (kt + 1 - kf))))) := hD
  refine W.eq (g2 := F0 m 40 ls [.int (nI (nSum hs_4 kf c0 (kt + 1 - kf)))]) rfl ?_
  refine lv_if_ne (tgt := 59) hx hb dL_isLowered_40 (by decide) (fun c9 => absurd ((nI_eq (a := (nSum hs_4 kf c0 (kt + 1 - kf))) (b := 0) (by omega) (by omega)).mpr (by omega)) c9) (fun _ => ?_)
  refine lv_aload_n hx hb dL_isLowered_43 rfl (lv_at hl 3 rfl) ?_
  refine pq_callV (wr := []) (own := RL) (nL := 8) (q0 := 0) (ci := 2) [0, 1, 2, 3, 4, 5, 6, 7, 8, 9, 10] [] [] (f_pressedAway l D cI q h a0 a1 a2 a3 a4 a5 g b0 b1 I_4) ⟨hx, hb, hml, hown, hts⟩ (cwV 0 hts gL_isLowered_X2_pressedAway rfl rfl rfl (by decide +kernel) ⟨by dsimp only [pq_R]; omega, by dsimp only [pq_R]; omega⟩) pq_blE (hE.call hD hS hA [0, 1, 2, 3, 4, 5, 6, 7, 8, 9, 10] rfl) hK hP hD hS hA rfl (by decide) rfl (by decide) (by decide) rfl rfl rfl rfl hl.1 rfl (Nat.le_of_ble_eq_true rfl) dL_isLowered_44 ⟨by dsimp only [pq_R]; omega, by dsimp only [pq_R]; omega⟩ (fun v w1 H locs hq hP hD hS hz => ?_)
  obtain ⟨rfl, rfl⟩ := hq
  have hP : va_P D vwCl (ppW q h a0 a1 a2 a3 a4 a5 g b0 b1 cI fi_4 la_4 B_4 G_4 (pr + (nI (nSum hs kf c0 (kt + 1 - kf))))) H := hP
  have hD : va_D A (ppW q h a0 a1 a2 a3 a4 a5 g b0 b1 cI fi_4 la_4 B_4 G_4 (pr + (nI (nSum hs kf c0 (kt + 1 - kf))))) := hD
  refine W.eq (g2 := F0 m 47 ls [.int (pr + (nI (nSum hs kf c0 (kt + 1 - kf))))]) rfl ?_
  refine lv_iload hx hb dL_isLowered_47 (lv_at hl 1 rfl) ?_
  refine lv_iload hx hb dL_isLowered_49 (lv_at hl 2 rfl) ?_
  refine lv_iadd hx hb dL_isLowered_51 ?_
  refine lv_icmp_ne (tgt := 59) hx hb dL_isLowered_52 (by decide) (fun c9 => absurd rfl c9) (fun _ => ?_)
  refine lv_iconst (v := 1) hx hb dL_isLowered_55 (by decide) ?_
  refine lv_goto (tgt := 60) hx hb dL_isLowered_56 (by decide) ?_
  refine lv_istore (lv' := [(7, .int 1), (6, .int (nI tot)), (5, .int pr), (4, .int (nI (nSum hs kf c0 (kt + 1 - kf)))), (0, .ref q), (1, .int (nI kf)), (2, .int (nI kt)), (3, .int (nI c0))]) hx hb dL_isLowered_60 hl (by decide) rfl (fun ls hl => ?_)
  refine lv_iload hx hb dL_isLowered_62 (lv_at hl 0 rfl) ?_
  refine lv_if_eq (tgt := 106) hx hb dL_isLowered_64 (by decide) (fun c9 => absurd c9 (by decide)) (fun _ => ?_)
  refine lv_aload_n hx hb dL_isLowered_67 rfl (lv_at hl 4 rfl) ?_
  refine pq_callV (wr := []) (own := RL) (nL := 8) (q0 := 0) (ci := 2) [0, 1, 2, 3, 4, 5, 6, 7, 8, 9, 10] [] [] (f_visits l D cI q h a0 a1 a2 a3 a4 a5 g b0 b1 I_4) ⟨hx, hb, hml, hown, hts⟩ (cwV 0 hts gL_isLowered_X2_visits rfl rfl rfl (by decide +kernel) ⟨by dsimp only [pq_R]; omega, by dsimp only [pq_R]; omega⟩) pq_blE (hE.call hD hS hA [0, 1, 2, 3, 4, 5, 6, 7, 8, 9, 10] rfl) hK hP hD hS hA rfl (by decide) rfl (by decide) (by decide) rfl rfl rfl rfl hl.1 rfl (Nat.le_of_ble_eq_true rfl) dL_isLowered_68 ⟨by dsimp only [pq_R]; omega, by dsimp only [pq_R]; omega⟩ (fun v w1 H locs hq hP hD hS hz => ?_)
  obtain ⟨rfl, rfl⟩ := hq
  have hP : va_P D vwCl (ppW q h a0 a1 a2 a3 a4 a5 g b0 b1 cI fi_4 la_4 B_4 G_4 (pr + (nI (nSum hs kf c0 (kt + 1 - kf))))) H := hP
  have hD : va_D A (ppW q h a0 a1 a2 a3 a4 a5 g b0 b1 cI fi_4 la_4 B_4 G_4 (pr + (nI (nSum hs kf c0 (kt + 1 - kf))))) := hD
  refine W.eq (g2 := F0 m 71 ls [.int (nI v_4)]) rfl ?_
  refine lv_iconst (v := 1) hx hb dL_isLowered_71 (by decide) ?_
  refine lv_icmp_lt (tgt := 106) hx hb dL_isLowered_72 (by decide) (fun c9 => absurd c9 (nI_nlt (a := v_4) (b := 1) (by omega) (by omega))) (fun _ => ?_)
  refine lv_aload_n hx hb dL_isLowered_75 rfl (lv_at hl 4 rfl) ?_
  refine pq_callV (wr := []) (own := RL) (nL := 8) (q0 := 0) (ci := 2) [0, 1, 2, 3, 4, 5, 6, 7, 8, 9, 10] [] [] (f_visits l D cI q h a0 a1 a2 a3 a4 a5 g b0 b1 I_4) ⟨hx, hb, hml, hown, hts⟩ (cwV 0 hts gL_isLowered_X2_visits rfl rfl rfl (by decide +kernel) ⟨by dsimp only [pq_R]; omega, by dsimp only [pq_R]; omega⟩) pq_blE (hE.call hD hS hA [0, 1, 2, 3, 4, 5, 6, 7, 8, 9, 10] rfl) hK hP hD hS hA rfl (by decide) rfl (by decide) (by decide) rfl rfl rfl rfl hl.1 rfl (Nat.le_of_ble_eq_true rfl) dL_isLowered_76 ⟨by dsimp only [pq_R]; omega, by dsimp only [pq_R]; omega⟩ (fun v w1 H locs hq hP hD hS hz => ?_)
  obtain ⟨rfl, rfl⟩ := hq
  have hP : va_P D vwCl (ppW q h a0 a1 a2 a3 a4 a5 g b0 b1 cI fi_4 la_4 B_4 G_4 (pr + (nI (nSum hs kf c0 (kt + 1 - kf))))) H := hP
  have hD : va_D A (ppW q h a0 a1 a2 a3 a4 a5 g b0 b1 cI fi_4 la_4 B_4 G_4 (pr + (nI (nSum hs kf c0 (kt + 1 - kf))))) := hD
  refine W.eq (g2 := F0 m 79 ls [.int (nI v_4)]) rfl ?_
  refine lv_iconst (v := 2) hx hb dL_isLowered_79 (by decide) ?_
  refine lv_aload_n hx hb dL_isLowered_80 rfl (lv_at hl 4 rfl) ?_
  refine pq_callV (wr := []) (own := RL) (nL := 8) (q0 := 0) (ci := 2) [0, 1, 2, 3, 4, 5, 6, 7, 8, 9, 10] [] [] (f_columns l D cI q h a0 a1 a2 a3 a4 a5 g b0 b1 I_4) ⟨hx, hb, hml, hown, hts⟩ (cwV 0 hts gL_isLowered_X2_columns rfl rfl rfl (by decide +kernel) ⟨by dsimp only [pq_R]; omega, by dsimp only [pq_R]; omega⟩) pq_blE (hE.call hD hS hA [0, 1, 2, 3, 4, 5, 6, 7, 8, 9, 10] rfl) hK hP hD hS hA rfl (by decide) rfl (by decide) (by decide) rfl rfl rfl rfl hl.1 rfl (Nat.le_of_ble_eq_true rfl) dL_isLowered_81 ⟨by dsimp only [pq_R]; omega, by dsimp only [pq_R]; omega⟩ (fun v w1 H locs hq hP hD hS hz => ?_)
  obtain ⟨rfl, rfl⟩ := hq
  have hP : va_P D vwCl (ppW q h a0 a1 a2 a3 a4 a5 g b0 b1 cI fi_4 la_4 B_4 G_4 (pr + (nI (nSum hs kf c0 (kt + 1 - kf))))) H := hP
  have hD : va_D A (ppW q h a0 a1 a2 a3 a4 a5 g b0 b1 cI fi_4 la_4 B_4 G_4 (pr + (nI (nSum hs kf c0 (kt + 1 - kf))))) := hD
  refine W.eq (g2 := F0 m 84 ls [.int (nI N), .int 2, .int (nI v_4)]) rfl ?_
  refine lv_imul hx hb dL_isLowered_84 ?_
  refine pq_top (nI (2 * N)) (pk_mul 2 _) ?_
  refine lv_icmp_gt (tgt := 106) hx hb dL_isLowered_85 (by decide) (fun c9 => absurd c9 (nI_nlt (a := (2 * N)) (b := v_4) (by omega) (by omega))) (fun _ => ?_)
  refine lv_aload_n hx hb dL_isLowered_88 rfl (lv_at hl 4 rfl) ?_
  refine pq_callV (wr := []) (own := RL) (nL := 8) (q0 := 0) (ci := 2) [0, 1, 2, 3, 4, 5, 6, 7, 8, 9, 10] [] [] (f_allVisits l D cI q h a0 a1 a2 a3 a4 a5 g b0 b1 I_4) ⟨hx, hb, hml, hown, hts⟩ (cwV 0 hts gL_isLowered_X2_allVisits rfl rfl rfl (by decide +kernel) ⟨by dsimp only [pq_R]; omega, by dsimp only [pq_R]; omega⟩) pq_blE (hE.call hD hS hA [0, 1, 2, 3, 4, 5, 6, 7, 8, 9, 10] rfl) hK hP hD hS hA rfl (by decide) rfl (by decide) (by decide) rfl rfl rfl rfl hl.1 rfl (Nat.le_of_ble_eq_true rfl) dL_isLowered_89 ⟨by dsimp only [pq_R]; omega, by dsimp only [pq_R]; omega⟩ (fun v w1 H locs hq hP hD hS hz => ?_)
  obtain ⟨rfl, rfl⟩ := hq
  have hP : va_P D vwCl (ppW q h a0 a1 a2 a3 a4 a5 g b0 b1 cI fi_4 la_4 B_4 G_4 (pr + (nI (nSum hs kf c0 (kt + 1 - kf))))) H := hP
  have hD : va_D A (ppW q h a0 a1 a2 a3 a4 a5 g b0 b1 cI fi_4 la_4 B_4 G_4 (pr + (nI (nSum hs kf c0 (kt + 1 - kf))))) := hD
  refine W.eq (g2 := F0 m 92 ls [.int (nI (tot + v_4))]) rfl ?_
  refine lv_iload hx hb dL_isLowered_92 (lv_at hl 1 rfl) ?_
  refine lv_aload_n hx hb dL_isLowered_94 rfl (lv_at hl 4 rfl) ?_
  refine pq_callV (wr := []) (own := RL) (nL := 8) (q0 := 0) (ci := 2) [0, 1, 2, 3, 4, 5, 6, 7, 8, 9, 10] [] [] (f_visits l D cI q h a0 a1 a2 a3 a4 a5 g b0 b1 I_4) ⟨hx, hb, hml, hown, hts⟩ (cwV 0 hts gL_isLowered_X2_visits rfl rfl rfl (by decide +kernel) ⟨by dsimp only [pq_R]; omega, by dsimp only [pq_R]; omega⟩) pq_blE (hE.call hD hS hA [0, 1, 2, 3, 4, 5, 6, 7, 8, 9, 10] rfl) hK hP hD hS hA rfl (by decide) rfl (by decide) (by decide) rfl rfl rfl rfl hl.1 rfl (Nat.le_of_ble_eq_true rfl) dL_isLowered_95 ⟨by dsimp only [pq_R]; omega, by dsimp only [pq_R]; omega⟩ (fun v w1 H locs hq hP hD hS hz => ?_)
  obtain ⟨rfl, rfl⟩ := hq
  have hP : va_P D vwCl (ppW q h a0 a1 a2 a3 a4 a5 g b0 b1 cI fi_4 la_4 B_4 G_4 (pr + (nI (nSum hs kf c0 (kt + 1 - kf))))) H := hP
  have hD : va_D A (ppW q h a0 a1 a2 a3 a4 a5 g b0 b1 cI fi_4 la_4 B_4 G_4 (pr + (nI (nSum hs kf c0 (kt + 1 - kf))))) := hD
  refine W.eq (g2 := F0 m 98 ls [.int (nI v_4), .int (nI tot), .int (nI (tot + v_4))]) rfl ?_
  refine lv_iadd hx hb dL_isLowered_98 ?_
  refine pq_top (nI (tot + v_4)) (nI_add _ _) ?_
  refine lv_icmp_ne (tgt := 106) hx hb dL_isLowered_99 (by decide) (fun c9 => absurd ((nI_eq (a := (tot + v_4)) (b := (tot + v_4)) (by omega) (by omega)).mpr (by omega)) c9) (fun _ => ?_)
  refine lv_iconst (v := 1) hx hb dL_isLowered_102 (by decide) ?_
  refine lv_goto (tgt := 107) hx hb dL_isLowered_103 (by decide) ?_
  refine lv_istore (lv' := [(7, .int 1), (6, .int (nI tot)), (5, .int pr), (4, .int (nI (nSum hs kf c0 (kt + 1 - kf)))), (0, .ref q), (1, .int (nI kf)), (2, .int (nI kt)), (3, .int (nI c0))]) hx hb dL_isLowered_107 hl (by decide) rfl (fun ls hl => ?_)
  refine lv_iload hx hb dL_isLowered_109 (lv_at hl 0 rfl) ?_
  refine lv_if_eq (tgt := 140) hx hb dL_isLowered_111 (by decide) (fun c9 => absurd c9 (by decide)) (fun _ => ?_)
  refine lv_aload_n hx hb dL_isLowered_114 rfl (lv_at hl 4 rfl) ?_
  refine lv_iload_n hx hb dL_isLowered_115 rfl (lv_at hl 5 rfl) ?_
  refine pq_callV (wr := []) (own := RL) (nL := 8) (q0 := 0) (ci := 2) [0, 1, 2, 3, 4, 5, 6, 7, 8, 9, 10] [] [.int (nI kf)] (f_ceilingOver l D cI q h a0 a1 a2 a3 a4 a5 g b0 b1 I_4 (kx := kf) (by omega) (by omega)) ⟨hx, hb, hml, hown, hts⟩ (cwV 1 hts gL_isLowered_X2_ceilingOver rfl rfl rfl (by decide +kernel) ⟨by dsimp only [pq_R]; omega, by dsimp only [pq_R]; omega⟩) pq_blE (hE.call hD hS hA [0, 1, 2, 3, 4, 5, 6, 7, 8, 9, 10] rfl) hK hP hD hS hA rfl (by decide) rfl (by decide) (by decide) rfl rfl rfl rfl hl.1 rfl (Nat.le_of_ble_eq_true rfl) dL_isLowered_116 ⟨by dsimp only [pq_R]; omega, by dsimp only [pq_R]; omega⟩ (fun v w1 H locs hq hP hD hS hz => ?_)
  obtain ⟨rfl, rfl⟩ := hq
  have b_12 := (I_4.2.2.2.2.2.2.2.1 kf (by omega)).2.1
  have hP : va_P D vwCl (ppW q h a0 a1 a2 a3 a4 a5 g b0 b1 cI fi_4 la_4 B_4 G_4 (pr + (nI (nSum hs kf c0 (kt + 1 - kf))))) H := hP
  have hD : va_D A (ppW q h a0 a1 a2 a3 a4 a5 g b0 b1 cI fi_4 la_4 B_4 G_4 (pr + (nI (nSum hs kf c0 (kt + 1 - kf))))) := hD
  refine W.eq (g2 := F0 m 119 ls [.int (nI (cs_4 kf - 1))]) rfl ?_
  refine lv_iload_n hx hb dL_isLowered_119 rfl (lv_at hl 7 rfl) ?_
  refine lv_icmp_gt (tgt := 140) hx hb dL_isLowered_120 (by decide) (fun c9 => absurd c9 (nI_nlt (a := c0) (b := (cs_4 kf - 1)) (by omega) (by omega))) (fun _ => ?_)
  refine lv_aload_n hx hb dL_isLowered_123 rfl (lv_at hl 4 rfl) ?_
  refine lv_iload_n hx hb dL_isLowered_124 rfl (lv_at hl 6 rfl) ?_
  refine pq_callV (wr := []) (own := RL) (nL := 8) (q0 := 0) (ci := 2) [0, 1, 2, 3, 4, 5, 6, 7, 8, 9, 10] [] [.int (nI kt)] (f_height l D cI q h a0 a1 a2 a3 a4 a5 g b0 b1 I_4 (kx := kt) (by omega)) ⟨hx, hb, hml, hown, hts⟩ (cwV 1 hts gL_isLowered_X2_height rfl rfl rfl (by decide +kernel) ⟨by dsimp only [pq_R]; omega, by dsimp only [pq_R]; omega⟩) pq_blE (hE.call hD hS hA [0, 1, 2, 3, 4, 5, 6, 7, 8, 9, 10] rfl) hK hP hD hS hA rfl (by decide) rfl (by decide) (by decide) rfl rfl rfl rfl hl.1 rfl (Nat.le_of_ble_eq_true rfl) dL_isLowered_125 ⟨by dsimp only [pq_R]; omega, by dsimp only [pq_R]; omega⟩ (fun v w1 H locs hq hP hD hS hz => ?_)
  obtain ⟨rfl, rfl⟩ := hq
  have b_13 := (I_4.2.2.2.2.2.2.1 kt (by omega)).1
  have hP : va_P D vwCl (ppW q h a0 a1 a2 a3 a4 a5 g b0 b1 cI fi_4 la_4 B_4 G_4 (pr + (nI (nSum hs kf c0 (kt + 1 - kf))))) H := hP
  have hD : va_D A (ppW q h a0 a1 a2 a3 a4 a5 g b0 b1 cI fi_4 la_4 B_4 G_4 (pr + (nI (nSum hs kf c0 (kt + 1 - kf))))) := hD
  refine W.eq (g2 := F0 m 128 ls [.int (nI (hs_4 kt))]) rfl ?_
  refine lv_aload_n hx hb dL_isLowered_128 rfl (lv_at hl 4 rfl) ?_
  refine lv_iload_n hx hb dL_isLowered_129 rfl (lv_at hl 6 rfl) ?_
  refine pq_callV (wr := []) (own := RL) (nL := 8) (q0 := 0) (ci := 2) [0, 1, 2, 3, 4, 5, 6, 7, 8, 9, 10] [] [.int (nI kt)] (f_ceilingOver l D cI q h a0 a1 a2 a3 a4 a5 g b0 b1 I_4 (kx := kt) (by omega) (by omega)) ⟨hx, hb, hml, hown, hts⟩ (cwV 1 hts gL_isLowered_X2_ceilingOver rfl rfl rfl (by decide +kernel) ⟨by dsimp only [pq_R]; omega, by dsimp only [pq_R]; omega⟩) pq_blE (hE.call hD hS hA [0, 1, 2, 3, 4, 5, 6, 7, 8, 9, 10] rfl) hK hP hD hS hA rfl (by decide) rfl (by decide) (by decide) rfl rfl rfl rfl hl.1 rfl (Nat.le_of_ble_eq_true rfl) dL_isLowered_130 ⟨by dsimp only [pq_R]; omega, by dsimp only [pq_R]; omega⟩ (fun v w1 H locs hq hP hD hS hz => ?_)
  obtain ⟨rfl, rfl⟩ := hq
  have b_14 := (I_4.2.2.2.2.2.2.2.1 kt (by omega)).2.1
  have hP : va_P D vwCl (ppW q h a0 a1 a2 a3 a4 a5 g b0 b1 cI fi_4 la_4 B_4 G_4 (pr + (nI (nSum hs kf c0 (kt + 1 - kf))))) H := hP
  have hD : va_D A (ppW q h a0 a1 a2 a3 a4 a5 g b0 b1 cI fi_4 la_4 B_4 G_4 (pr + (nI (nSum hs kf c0 (kt + 1 - kf))))) := hD
  refine W.eq (g2 := F0 m 133 ls [.int (nI (cs_4 kt - 1)), .int (nI (hs_4 kt))]) rfl ?_
  refine lv_icmp_gt (tgt := 140) hx hb dL_isLowered_133 (by decide) (fun c9 => absurd c9 (nI_nlt (a := (cs_4 kt - 1)) (b := (hs_4 kt)) (by omega) (by omega))) (fun _ => ?_)
  refine lv_iconst (v := 1) hx hb dL_isLowered_136 (by decide) ?_
  refine lv_goto (tgt := 141) hx hb dL_isLowered_137 (by decide) ?_
  exact pq_zret hQ hx hb hr hlocks hK hS hP hD dL_isLowered_141 (by omega) (by omega) (by decide) (⟨rfl, _, _, _, _, _, _, _, _, _, _, _, rfl, I_4, by omega⟩)

theorem Mv_nn {tot cal : Nat} {r : UInt64} (h : Mv tot cal r) : ¬ Op.cmpValue (FP.dcmp r FP.dconst0) .l < 0 := by
  rcases h with ⟨-, rfl⟩ | ⟨-, h⟩
  · decide +kernel
  · rw [h]; decide
theorem Mv_z {tot cal : Nat} {r : UInt64} (h : Mv tot cal r) (h0 : cal = 0) : Op.cmpValue (FP.dcmp r FP.dconst0) .l ≤ 0 := by
  rcases h with ⟨-, rfl⟩ | ⟨h1, -⟩
  · decide +kernel
  · omega
theorem Mv_p {tot cal : Nat} {r : UInt64} (h : Mv tot cal r) (h0 : 1 ≤ cal) : ¬ Op.cmpValue (FP.dcmp r FP.dconst0) .l ≤ 0 := by
  rcases h with ⟨h1, -⟩ | ⟨-, h⟩
  · omega
  · rw [h]; decide
theorem j_t0 {N : Nat} {hs cs : Nat → Nat} {vis tot cal : Nat} {fi la : Nat → Int32} {B : BK} {G : GK} {pr : Int32} (I : J N hs cs vis tot cal fi la B G pr) (h : tot = 0) : cal = 0 := by
  have := I.2.2.2.2.2.2.2.2.2.2.2.2.2
  omega
theorem j_t1 {N : Nat} {hs cs : Nat → Nat} {vis tot cal : Nat} {fi la : Nat → Int32} {B : BK} {G : GK} {pr : Int32} (I : J N hs cs vis tot cal fi la B G pr) (h : 1 ≤ tot) : 1 ≤ cal := by
  have := I.2.2.2.2.2.2.2.2.2.2.2.2.2
  omega
/-- what the first entry has noted -/
theorem j_root {N : Nat} {hs cs : Nat → Nat} {vis tot cal : Nat} {fi la : Nat → Int32} {B : BK} {G : GK} {pr : Int32} (I : J N hs cs vis tot cal fi la B G pr) : B.1 1 = nI (nMax hs 0 N) ∧ B.2.2.2.1 1 = nI (nSum hs 0 0 N) ∧ nMax hs 0 N ≤ 1000 := by
  obtain ⟨i1, i2, i3, i4, i5, i6, i7, -⟩ := I
  have H := Ok_1 (by decide) (by decide) i4
  rw [(sp_root N).1, (sp_root N).2] at H
  obtain ⟨a1, a2, a3, a4, a5, a6, ⟨k7, b7, j7, e7⟩, a8⟩ := H
  obtain ⟨k0, x0, y0, z0⟩ := nMax_ex (h := hs) (f := 0) (n := N) i1
  have hb := (i7 k0 (by omega)).1
  have hk7 := (i7 k7 (by omega)).1
  refine ⟨?_, ?_, by omega⟩
  · have h1 : hs k7 ≤ nMax hs 0 N := nMax_ge (Nat.zero_le _) (by omega)
    have h2 : nI (hs k0) ≤ B.1 1 := by
      rw [← i6 k0 (by omega)]
      exact hv_le 7 1 k0
    have h3 : B.1 1 = nI (hs k7) := by
      rw [← i6 k7 j7]
      exact e7.symm
    rw [h3] at h2 ⊢
    have h4 := (nI_leI (by omega) (by omega)).mp h2
    congr 1
    omega
  · exact (show B.2.2.2.1 1 = _ from a6).trans (g_n (fun m _ hm => i6 m (by omega)))

set_option maxHeartbeats 4000000 in
set_option maxRecDepth 100000 in
theorem mL_isSo (l : Launch) (D : va_G) (cI : ClassId) (q h a0 a1 a2 a3 a4 a5 g b0 b1 : Nat) {N : Nat} {hs cs : Nat → Nat} {vis tot cal : Nat} {fi la : Nat → Int32} {B : BK} {G : GK} {pr : Int32} (I : J N hs cs vis tot cal fi la B G pr) (ht : tot ≤ 100000) : pq_M l yL_isSo wsL_isSo 9 165 0 0 D [(cI, .int)] pq_Ev (ppW q h a0 a1 a2 a3 a4 a5 g b0 b1 cI fi la B G pr) [.ref q] (fun v w1 => v = some (.int 1) ∧ w1 = (ppW q h a0 a1 a2 a3 a4 a5 g b0 b1 cI fi la B G pr)) := by
  refine pq_enter (cc := cL_isSo) (maxL := 4) (ret := (some .boolean)) (by decide) rfl (Nat.le_of_ble_eq_true rfl) ?_
  intro p ev s m args below meth cd A ls Q H locs hx hb hr hml hts hown hlocks hnm hK hP hD hS hA hE hl hQ
  have hl : lv_has ls 4 [(0, .ref q)] := hl
  have hP : va_P D vwCl (ppW q h a0 a1 a2 a3 a4 a5 g b0 b1 cI fi la B G pr) H := hP
  have hD : va_D A (ppW q h a0 a1 a2 a3 a4 a5 g b0 b1 cI fi la B G pr) := hD
  have hN1 := I.1
  have hN2 := I.2.1
  refine lv_aload_n hx hb dL_isSo_0 rfl (lv_at hl 0 rfl) ?_
  refine pq_callV (wr := []) (own := RL) (nL := 4) (q0 := 0) (ci := 2) [0, 1, 2, 3, 4, 5, 6, 7, 8, 9, 10] [] [] (f_columns l D cI q h a0 a1 a2 a3 a4 a5 g b0 b1 I) ⟨hx, hb, hml, hown, hts⟩ (cwV 0 hts gL_isSo_X2_columns rfl rfl rfl (by decide +kernel) ⟨by dsimp only [pq_R]; omega, by dsimp only [pq_R]; omega⟩) pq_blE (hE.call hD hS hA [0, 1, 2, 3, 4, 5, 6, 7, 8, 9, 10] rfl) hK hP hD hS hA rfl (by decide) rfl (by decide) (by decide) rfl rfl rfl rfl hl.1 rfl (Nat.le_of_ble_eq_true rfl) dL_isSo_1 ⟨by dsimp only [pq_R]; omega, by dsimp only [pq_R]; omega⟩ (fun v w1 H locs hq hP hD hS hz => ?_)
  obtain ⟨rfl, rfl⟩ := hq
  have hP : va_P D vwCl (ppW q h a0 a1 a2 a3 a4 a5 g b0 b1 cI fi la B G pr) H := hP
  have hD : va_D A (ppW q h a0 a1 a2 a3 a4 a5 g b0 b1 cI fi la B G pr) := hD
  refine W.eq (g2 := F0 m 4 ls [.int (nI N)]) rfl ?_
  refine lv_istore_n (lv' := [(1, .int (nI N)), (0, .ref q)]) hx hb dL_isSo_4 rfl hl (by decide) rfl (fun ls hl => ?_)
  refine lv_iconst (v := 0) hx hb dL_isSo_5 (by decide) ?_
  refine lv_istore_n (lv' := [(2, .int 0), (1, .int (nI N)), (0, .ref q)]) hx hb dL_isSo_6 rfl hl (by decide) rfl (fun ls hl => ?_)
  refine lv_iconst (v := 0) hx hb dL_isSo_7 (by decide) ?_
  refine lv_istore_n (lv' := [(3, .int 0), (2, .int 0), (1, .int (nI N)), (0, .ref q)]) hx hb dL_isSo_8 rfl hl (by decide) rfl (fun ls hl => ?_)
  have LP : ∀ (n : Nat) (kk mo : Nat), 65 - kk < n → kk ≤ N → mo = nMax hs 0 (kk - 0) → mo ≤ 1000 → ∀ (H : Heap) (locs : List Loc) (ls : Array Slot), va_P D vwCl (ppW q h a0 a1 a2 a3 a4 a5 g b0 b1 cI fi la B G pr) H → va_D A (ppW q h a0 a1 a2 a3 a4 a5 g b0 b1 cI fi la B G pr) → va_S A s.heap H locs → lv_has ls 4 [(3, .int (nI kk)), (2, .int (nI mo)), (1, .int (nI N)), (0, .ref q)] → W p l ev (pq_R 9 165 0 0) s m args below meth cd H locs 0 0 Q (F0 m 9 ls []) := by
    intro n
    induction n with
    | zero => intro kk mo h1; exact absurd h1 (Nat.not_lt_zero _)
    | succ n ihLP =>
      intro kk mo hmeas h2 hmo hmb H locs ls hP hD hS hl
      refine lv_iload_n hx hb dL_isSo_9 rfl (lv_at hl 0 rfl) ?_
      refine lv_iload_n hx hb dL_isSo_10 rfl (lv_at hl 2 rfl) ?_
      rcases Nat.lt_or_ge kk N with k_2 | k_2
      · refine lv_icmp_ge (tgt := 39) hx hb dL_isSo_11 (by decide) (fun c9 => absurd c9 ((nI_ge (a := kk) (b := N) k_2 (by omega)))) (fun _ => ?_)
        refine lv_aload_n hx hb dL_isSo_14 rfl (lv_at hl 3 rfl) ?_
        refine lv_iload_n hx hb dL_isSo_15 rfl (lv_at hl 0 rfl) ?_
        refine pq_callV (wr := []) (own := RL) (nL := 4) (q0 := 0) (ci := 2) [0, 1, 2, 3, 4, 5, 6, 7, 8, 9, 10] [] [.int (nI kk)] (f_heightOfColumn l D cI q h a0 a1 a2 a3 a4 a5 g b0 b1 I (kx := kk) (by omega)) ⟨hx, hb, hml, hown, hts⟩ (cwV 1 hts gL_isSo_X2_heightOfColumn rfl rfl rfl (by decide +kernel) ⟨by dsimp only [pq_R]; omega, by dsimp only [pq_R]; omega⟩) pq_blE (hE.call hD hS hA [0, 1, 2, 3, 4, 5, 6, 7, 8, 9, 10] rfl) hK hP hD hS hA rfl (by decide) rfl (by decide) (by decide) rfl rfl rfl rfl hl.1 rfl (Nat.le_of_ble_eq_true rfl) dL_isSo_16 ⟨by dsimp only [pq_R]; omega, by dsimp only [pq_R]; omega⟩ (fun v w1 H locs hq hP hD hS hz => ?_)
        obtain ⟨rfl, rfl⟩ := hq
        have b_3 := (I.2.2.2.2.2.2.1 kk (by omega)).1
        have hP : va_P D vwCl (ppW q h a0 a1 a2 a3 a4 a5 g b0 b1 cI fi la B G pr) H := hP
        have hD : va_D A (ppW q h a0 a1 a2 a3 a4 a5 g b0 b1 cI fi la B G pr) := hD
        refine W.eq (g2 := F0 m 19 ls [.int (nI (hs kk))]) rfl ?_
        refine lv_iload_n hx hb dL_isSo_19 rfl (lv_at hl 1 rfl) ?_
        rcases Nat.lt_or_ge mo (hs kk) with k_4 | k_4
        · refine lv_icmp_le (tgt := 31) hx hb dL_isSo_20 (by decide) (fun c9 => absurd c9 ((nI_ge (a := mo) (b := (hs kk)) k_4 (by omega)))) (fun _ => ?_)
          refine lv_aload_n hx hb dL_isSo_23 rfl (lv_at hl 3 rfl) ?_
          refine lv_iload_n hx hb dL_isSo_24 rfl (lv_at hl 0 rfl) ?_
          refine pq_callV (wr := []) (own := RL) (nL := 4) (q0 := 0) (ci := 2) [0, 1, 2, 3, 4, 5, 6, 7, 8, 9, 10] [] [.int (nI kk)] (f_heightOfColumn l D cI q h a0 a1 a2 a3 a4 a5 g b0 b1 I (kx := kk) (by omega)) ⟨hx, hb, hml, hown, hts⟩ (cwV 1 hts gL_isSo_X2_heightOfColumn rfl rfl rfl (by decide +kernel) ⟨by dsimp only [pq_R]; omega, by dsimp only [pq_R]; omega⟩) pq_blE (hE.call hD hS hA [0, 1, 2, 3, 4, 5, 6, 7, 8, 9, 10] rfl) hK hP hD hS hA rfl (by decide) rfl (by decide) (by decide) rfl rfl rfl rfl hl.1 rfl (Nat.le_of_ble_eq_true rfl) dL_isSo_25 ⟨by dsimp only [pq_R]; omega, by dsimp only [pq_R]; omega⟩ (fun v w1 H locs hq hP hD hS hz => ?_)
          obtain ⟨rfl, rfl⟩ := hq
          have b_5 := (I.2.2.2.2.2.2.1 kk (by omega)).1
          have hP : va_P D vwCl (ppW q h a0 a1 a2 a3 a4 a5 g b0 b1 cI fi la B G pr) H := hP
          have hD : va_D A (ppW q h a0 a1 a2 a3 a4 a5 g b0 b1 cI fi la B G pr) := hD
          refine W.eq (g2 := F0 m 28 ls [.int (nI (hs kk))]) rfl ?_
          refine lv_goto (tgt := 32) hx hb dL_isSo_28 (by decide) ?_
          refine lv_istore_n (lv' := [(2, .int (nI (hs kk))), (3, .int (nI kk)), (1, .int (nI N)), (0, .ref q)]) hx hb dL_isSo_32 rfl hl (by decide) rfl (fun ls hl => ?_)
          refine lv_iinc (v := nI (kk + 1)) (lv' := [(3, .int (nI (kk + 1))), (2, .int (nI (hs kk))), (1, .int (nI N)), (0, .ref q)]) hx hb dL_isSo_33 hl (k := 1) rfl (nI_add _ 1) (by decide) rfl (fun ls hl => ?_)
          refine lv_goto (tgt := 9) hx hb dL_isSo_36 (by decide) ?_
          exact ihLP (kk + 1) (hs kk) (by omega) (by omega) (by rw [nMax_s (Nat.zero_le kk), ← hmo]; omega) (by omega) H locs ls hP hD hS (lv_sub hl [0, 1, 2, 3] rfl)
        · refine lv_icmp_le (tgt := 31) hx hb dL_isSo_20 (by decide) (fun _ => ?_) (fun c9 => absurd ((nI_le (a := (hs kk)) (b := mo) k_4 (by omega))) c9)
          refine lv_iload_n hx hb dL_isSo_31 rfl (lv_at hl 1 rfl) ?_
          refine lv_istore_n (lv' := [(2, .int (nI mo)), (3, .int (nI kk)), (1, .int (nI N)), (0, .ref q)]) hx hb dL_isSo_32 rfl hl (by decide) rfl (fun ls hl => ?_)
          refine lv_iinc (v := nI (kk + 1)) (lv' := [(3, .int (nI (kk + 1))), (2, .int (nI mo)), (1, .int (nI N)), (0, .ref q)]) hx hb dL_isSo_33 hl (k := 1) rfl (nI_add _ 1) (by decide) rfl (fun ls hl => ?_)
          refine lv_goto (tgt := 9) hx hb dL_isSo_36 (by decide) ?_
          exact ihLP (kk + 1) mo (by omega) (by omega) (by rw [nMax_s (Nat.zero_le kk), ← hmo]; omega) (by omega) H locs ls hP hD hS (lv_sub hl [0, 1, 2, 3] rfl)
      · refine lv_icmp_ge (tgt := 39) hx hb dL_isSo_11 (by decide) (fun _ => ?_) (fun c9 => absurd ((nI_le (a := N) (b := kk) k_2 (by omega))) c9)
        obtain rfl : N = kk := by omega
        obtain ⟨e1, e2, e3⟩ := j_root I
        have hq1 : nSum hs 0 0 (N - 1 + 1 - 0) = nSum hs 0 0 N := by rw [show N - 1 + 1 - 0 = N by omega]
        have hq2 : mo = nMax hs 0 N := by rw [hmo, Nat.sub_zero]
        refine lv_aload_n hx hb dL_isSo_39 rfl (lv_at hl 3 rfl) ?_
        refine lv_iconst (v := 1) hx hb dL_isSo_40 (by decide) ?_
        refine pq_callV (wr := []) (own := RL) (nL := 4) (q0 := 0) (ci := 2) [0, 1, 2, 3, 4, 5, 6, 7, 8, 9, 10] [] [.int 1] (f_noted l D cI q h a0 a1 a2 a3 a4 a5 g b0 b1 I (ke := 1) (Ex_1 hN1) (x := (nSum hs 0 0 N)) e2) ⟨hx, hb, hml, hown, hts⟩ (cwV 1 hts gL_isSo_X2_noted rfl rfl rfl (by decide +kernel) ⟨by dsimp only [pq_R]; omega, by dsimp only [pq_R]; omega⟩) pq_blE (hE.call hD hS hA [0, 1, 2, 3, 4, 5, 6, 7, 8, 9, 10] rfl) hK hP hD hS hA rfl (by decide) rfl (by decide) (by decide) rfl rfl rfl rfl hl.1 rfl (Nat.le_of_ble_eq_true rfl) dL_isSo_41 ⟨by dsimp only [pq_R]; omega, by dsimp only [pq_R]; omega⟩ (fun v w1 H locs hq hP hD hS hz => ?_)
        obtain ⟨rfl, rfl⟩ := hq
        have hP : va_P D vwCl (ppW q h a0 a1 a2 a3 a4 a5 g b0 b1 cI fi la B G pr) H := hP
        have hD : va_D A (ppW q h a0 a1 a2 a3 a4 a5 g b0 b1 cI fi la B G pr) := hD
        refine W.eq (g2 := F0 m 44 ls [.int (nI (nSum hs 0 0 N))]) rfl ?_
        refine lv_aload_n hx hb dL_isSo_44 rfl (lv_at hl 3 rfl) ?_
        refine lv_iconst (v := 0) hx hb dL_isSo_45 (by decide) ?_
        refine lv_iload_n hx hb dL_isSo_46 rfl (lv_at hl 2 rfl) ?_
        refine lv_iconst (v := 1) hx hb dL_isSo_47 (by decide) ?_
        refine lv_isub hx hb dL_isSo_48 ?_
        refine pq_top (nI (N - 1)) (pk_sub (b := 1) (by omega)) ?_
        refine pq_callV (wr := []) (own := RL) (nL := 4) (q0 := 0) (ci := 2) [0, 1, 2, 3, 4, 5, 6, 7, 8, 9, 10] [] [.int 0, .int (nI (N - 1))] (f_earthByColumns l D cI q h a0 a1 a2 a3 a4 a5 g b0 b1 I (kf := 0) (kt := (N - 1)) (by omega) (by omega)) ⟨hx, hb, hml, hown, hts⟩ (cwV 2 hts gL_isSo_X2_earthByColumns rfl rfl rfl (by decide +kernel) ⟨by dsimp only [pq_R]; omega, by dsimp only [pq_R]; omega⟩) pq_blE (hE.call hD hS hA [0, 1, 2, 3, 4, 5, 6, 7, 8, 9, 10] rfl) hK hP hD hS hA rfl (by decide) rfl (by decide) (by decide) rfl rfl rfl rfl hl.1 rfl (Nat.le_of_ble_eq_true rfl) dL_isSo_49 ⟨by dsimp only [pq_R]; omega, by dsimp only [pq_R]; omega⟩ (fun v w1 H locs hq hP hD hS hz => ?_)
        obtain ⟨rfl, rfl⟩ := hq
        have b_7 := j_sum_b (c := 0) I (f := 0) (t := (N - 1)) (by omega) (by omega)
        have hP : va_P D vwCl (ppW q h a0 a1 a2 a3 a4 a5 g b0 b1 cI fi la B G pr) H := hP
        have hD : va_D A (ppW q h a0 a1 a2 a3 a4 a5 g b0 b1 cI fi la B G pr) := hD
        refine W.eq (g2 := F0 m 52 ls [.int (nI (nSum hs 0 0 ((N - 1) + 1 - 0))), .int (nI (nSum hs 0 0 N))]) rfl ?_
        refine lv_icmp_ne (tgt := 98) hx hb dL_isSo_52 (by decide) (fun c9 => absurd ((nI_eq (a := (nSum hs 0 0 N)) (b := (nSum hs 0 0 ((N - 1) + 1 - 0))) (by omega) (by omega)).mpr (by omega)) c9) (fun _ => ?_)
        refine lv_aload_n hx hb dL_isSo_55 rfl (lv_at hl 3 rfl) ?_
        refine lv_iconst (v := 1) hx hb dL_isSo_56 (by decide) ?_
        refine pq_callV (wr := []) (own := RL) (nL := 4) (q0 := 0) (ci := 2) [0, 1, 2, 3, 4, 5, 6, 7, 8, 9, 10] [] [.int 1] (f_greatest l D cI q h a0 a1 a2 a3 a4 a5 g b0 b1 I (ke := 1) (Ex_1 hN1) (x := (nMax hs 0 N)) e1) ⟨hx, hb, hml, hown, hts⟩ (cwV 1 hts gL_isSo_X2_greatest rfl rfl rfl (by decide +kernel) ⟨by dsimp only [pq_R]; omega, by dsimp only [pq_R]; omega⟩) pq_blE (hE.call hD hS hA [0, 1, 2, 3, 4, 5, 6, 7, 8, 9, 10] rfl) hK hP hD hS hA rfl (by decide) rfl (by decide) (by decide) rfl rfl rfl rfl hl.1 rfl (Nat.le_of_ble_eq_true rfl) dL_isSo_57 ⟨by dsimp only [pq_R]; omega, by dsimp only [pq_R]; omega⟩ (fun v w1 H locs hq hP hD hS hz => ?_)
        obtain ⟨rfl, rfl⟩ := hq
        have hP : va_P D vwCl (ppW q h a0 a1 a2 a3 a4 a5 g b0 b1 cI fi la B G pr) H := hP
        have hD : va_D A (ppW q h a0 a1 a2 a3 a4 a5 g b0 b1 cI fi la B G pr) := hD
        refine W.eq (g2 := F0 m 60 ls [.int (nI (nMax hs 0 N))]) rfl ?_
        refine lv_iload_n hx hb dL_isSo_60 rfl (lv_at hl 1 rfl) ?_
        refine lv_icmp_ne (tgt := 98) hx hb dL_isSo_61 (by decide) (fun c9 => absurd ((nI_eq (a := (nMax hs 0 N)) (b := mo) (by omega) (by omega)).mpr (by omega)) c9) (fun _ => ?_)
        refine lv_aload_n hx hb dL_isSo_64 rfl (lv_at hl 3 rfl) ?_
        refine pq_callV (wr := []) (own := RL) (nL := 4) (q0 := 0) (ci := 2) [0, 1, 2, 3, 4, 5, 6, 7, 8, 9, 10] [] [] (f_pressedAway l D cI q h a0 a1 a2 a3 a4 a5 g b0 b1 I) ⟨hx, hb, hml, hown, hts⟩ (cwV 0 hts gL_isSo_X2_pressedAway rfl rfl rfl (by decide +kernel) ⟨by dsimp only [pq_R]; omega, by dsimp only [pq_R]; omega⟩) pq_blE (hE.call hD hS hA [0, 1, 2, 3, 4, 5, 6, 7, 8, 9, 10] rfl) hK hP hD hS hA rfl (by decide) rfl (by decide) (by decide) rfl rfl rfl rfl hl.1 rfl (Nat.le_of_ble_eq_true rfl) dL_isSo_65 ⟨by dsimp only [pq_R]; omega, by dsimp only [pq_R]; omega⟩ (fun v w1 H locs hq hP hD hS hz => ?_)
        obtain ⟨rfl, rfl⟩ := hq
        have hP : va_P D vwCl (ppW q h a0 a1 a2 a3 a4 a5 g b0 b1 cI fi la B G pr) H := hP
        have hD : va_D A (ppW q h a0 a1 a2 a3 a4 a5 g b0 b1 cI fi la B G pr) := hD
        refine W.eq (g2 := F0 m 68 ls [.int pr]) rfl ?_
        refine lv_aload_n hx hb dL_isSo_68 rfl (lv_at hl 3 rfl) ?_
        refine pq_callV (wr := []) (own := RL) (nL := 4) (q0 := 0) (ci := 2) [0, 1, 2, 3, 4, 5, 6, 7, 8, 9, 10] [] [] (f_pressedAwayByRest l D cI q h a0 a1 a2 a3 a4 a5 g b0 b1 I) ⟨hx, hb, hml, hown, hts⟩ (cwV 0 hts gL_isSo_X2_pressedAwayByRest rfl rfl rfl (by decide +kernel) ⟨by dsimp only [pq_R]; omega, by dsimp only [pq_R]; omega⟩) pq_blE (hE.call hD hS hA [0, 1, 2, 3, 4, 5, 6, 7, 8, 9, 10] rfl) hK hP hD hS hA rfl (by decide) rfl (by decide) (by decide) rfl rfl rfl rfl hl.1 rfl (Nat.le_of_ble_eq_true rfl) dL_isSo_69 ⟨by dsimp only [pq_R]; omega, by dsimp only [pq_R]; omega⟩ (fun v w1 H locs hq hP hD hS hz => ?_)
        obtain ⟨rfl, rfl⟩ := hq
        have hP : va_P D vwCl (ppW q h a0 a1 a2 a3 a4 a5 g b0 b1 cI fi la B G pr) H := hP
        have hD : va_D A (ppW q h a0 a1 a2 a3 a4 a5 g b0 b1 cI fi la B G pr) := hD
        refine W.eq (g2 := F0 m 72 ls [.int pr, .int pr]) rfl ?_
        refine lv_icmp_ne (tgt := 98) hx hb dL_isSo_72 (by decide) (fun c9 => absurd rfl c9) (fun _ => ?_)
        refine lv_aload_n hx hb dL_isSo_75 rfl (lv_at hl 3 rfl) ?_
        refine pq_callV (wr := []) (own := RL) (nL := 4) (q0 := 0) (ci := 2) [0, 1, 2, 3, 4, 5, 6, 7, 8, 9, 10] [] [] (f_lagging l D cI q h a0 a1 a2 a3 a4 a5 g b0 b1 I) ⟨hx, hb, hml, hown, hts⟩ (cwV 0 hts gL_isSo_X2_lagging rfl rfl rfl (by decide +kernel) ⟨by dsimp only [pq_R]; omega, by dsimp only [pq_R]; omega⟩) pq_blE (hE.call hD hS hA [0, 1, 2, 3, 4, 5, 6, 7, 8, 9, 10] rfl) hK hP hD hS hA rfl (by decide) rfl (by decide) (by decide) rfl rfl rfl rfl hl.1 rfl (Nat.le_of_ble_eq_true rfl) dL_isSo_76 ⟨by dsimp only [pq_R]; omega, by dsimp only [pq_R]; omega⟩ (fun v w1 H locs hq hP hD hS hz => ?_)
        obtain ⟨lg_11, lh_11, rfl, rfl⟩ := hq
        have hP : va_P D vwCl (ppW q h a0 a1 a2 a3 a4 a5 g b0 b1 cI fi la B G pr) H := hP
        have hD : va_D A (ppW q h a0 a1 a2 a3 a4 a5 g b0 b1 cI fi la B G pr) := hD
        refine W.eq (g2 := F0 m 79 ls [.int (nI lg_11)]) rfl ?_
        refine lv_if_lt (tgt := 98) hx hb dL_isSo_79 (by decide) (fun c9 => absurd c9 (nI_nlt (a := lg_11) (b := 0) (by omega) (by omega))) (fun _ => ?_)
        refine lv_aload_n hx hb dL_isSo_82 rfl (lv_at hl 3 rfl) ?_
        refine pq_callV (wr := []) (own := RL) (nL := 4) (q0 := 0) (ci := 2) [0, 1, 2, 3, 4, 5, 6, 7, 8, 9, 10] [] [] (f_lagging l D cI q h a0 a1 a2 a3 a4 a5 g b0 b1 I) ⟨hx, hb, hml, hown, hts⟩ (cwV 0 hts gL_isSo_X2_lagging rfl rfl rfl (by decide +kernel) ⟨by dsimp only [pq_R]; omega, by dsimp only [pq_R]; omega⟩) pq_blE (hE.call hD hS hA [0, 1, 2, 3, 4, 5, 6, 7, 8, 9, 10] rfl) hK hP hD hS hA rfl (by decide) rfl (by decide) (by decide) rfl rfl rfl rfl hl.1 rfl (Nat.le_of_ble_eq_true rfl) dL_isSo_83 ⟨by dsimp only [pq_R]; omega, by dsimp only [pq_R]; omega⟩ (fun v w1 H locs hq hP hD hS hz => ?_)
        obtain ⟨lg_12, lh_12, rfl, rfl⟩ := hq
        have hP : va_P D vwCl (ppW q h a0 a1 a2 a3 a4 a5 g b0 b1 cI fi la B G pr) H := hP
        have hD : va_D A (ppW q h a0 a1 a2 a3 a4 a5 g b0 b1 cI fi la B G pr) := hD
        refine W.eq (g2 := F0 m 86 ls [.int (nI lg_12)]) rfl ?_
        refine lv_iconst (v := 2) hx hb dL_isSo_86 (by decide) ?_
        refine lv_iload_n hx hb dL_isSo_87 rfl (lv_at hl 2 rfl) ?_
        refine lv_imul hx hb dL_isSo_88 ?_
        refine pq_top (nI (2 * N)) (pk_mul 2 _) ?_
        refine lv_iconst (v := 1) hx hb dL_isSo_89 (by decide) ?_
        refine lv_isub hx hb dL_isSo_90 ?_
        refine pq_top (nI ((2 * N) - 1)) (pk_sub (b := 1) (by omega)) ?_
        refine lv_icmp_ge (tgt := 98) hx hb dL_isSo_91 (by decide) (fun c9 => absurd c9 (nI_ge (a := lg_12) (b := ((2 * N) - 1)) (by omega) (by omega))) (fun _ => ?_)
        refine lv_iconst (v := 1) hx hb dL_isSo_94 (by decide) ?_
        refine lv_goto (tgt := 99) hx hb dL_isSo_95 (by decide) ?_
        refine lv_istore_n (lv' := [(3, .int 1), (2, .int (nI mo)), (1, .int (nI N)), (0, .ref q)]) hx hb dL_isSo_99 rfl hl (by decide) rfl (fun ls hl => ?_)
        refine lv_iload_n hx hb dL_isSo_100 rfl (lv_at hl 0 rfl) ?_
        refine lv_if_eq (tgt := 146) hx hb dL_isSo_101 (by decide) (fun c9 => absurd c9 (by decide)) (fun _ => ?_)
        refine lv_aload_n hx hb dL_isSo_104 rfl (lv_at hl 3 rfl) ?_
        refine pq_callV (wr := []) (own := RL) (nL := 4) (q0 := 0) (ci := 2) [0, 1, 2, 3, 4, 5, 6, 7, 8, 9, 10] [] [] (f_meanVisits l D cI q h a0 a1 a2 a3 a4 a5 g b0 b1 I (by omega)) ⟨hx, hb, hml, hown, hts⟩ (cwV 0 hts gL_isSo_X2_meanVisits rfl rfl rfl (by decide +kernel) ⟨by dsimp only [pq_R]; omega, by dsimp only [pq_R]; omega⟩) pq_blE (hE.call hD hS hA [0, 1, 2, 3, 4, 5, 6, 7, 8, 9, 10] rfl) hK hP hD hS hA rfl (by decide) rfl (by decide) (by decide) rfl rfl rfl rfl hl.1 rfl (Nat.le_of_ble_eq_true rfl) dL_isSo_105 ⟨by dsimp only [pq_R]; omega, by dsimp only [pq_R]; omega⟩ (fun v w1 H locs hq hP hD hS hz => ?_)
        obtain ⟨d_13, rfl, dm_13, rfl⟩ := hq
        have hP : va_P D vwCl (ppW q h a0 a1 a2 a3 a4 a5 g b0 b1 cI fi la B G pr) H := hP
        have hD : va_D A (ppW q h a0 a1 a2 a3 a4 a5 g b0 b1 cI fi la B G pr) := hD
        refine W.eq (g2 := F0 m 108 ls [.double d_13]) rfl ?_
        refine lv_dconst0 hx hb dL_isSo_108 ?_
        refine lv_dcmp hx hb dL_isSo_109 ?_
        refine lv_if_lt (tgt := 146) hx hb dL_isSo_110 (by decide) (fun c9 => absurd c9 (Mv_nn dm_13)) (fun _ => ?_)
        refine lv_aload_n hx hb dL_isSo_113 rfl (lv_at hl 3 rfl) ?_
        refine pq_callV (wr := []) (own := RL) (nL := 4) (q0 := 0) (ci := 2) [0, 1, 2, 3, 4, 5, 6, 7, 8, 9, 10] [] [] (f_allVisits l D cI q h a0 a1 a2 a3 a4 a5 g b0 b1 I) ⟨hx, hb, hml, hown, hts⟩ (cwV 0 hts gL_isSo_X2_allVisits rfl rfl rfl (by decide +kernel) ⟨by dsimp only [pq_R]; omega, by dsimp only [pq_R]; omega⟩) pq_blE (hE.call hD hS hA [0, 1, 2, 3, 4, 5, 6, 7, 8, 9, 10] rfl) hK hP hD hS hA rfl (by decide) rfl (by decide) (by decide) rfl rfl rfl rfl hl.1 rfl (Nat.le_of_ble_eq_true rfl) dL_isSo_114 ⟨by dsimp only [pq_R]; omega, by dsimp only [pq_R]; omega⟩ (fun v w1 H locs hq hP hD hS hz => ?_)
        obtain ⟨rfl, rfl⟩ := hq
        have hP : va_P D vwCl (ppW q h a0 a1 a2 a3 a4 a5 g b0 b1 cI fi la B G pr) H := hP
        have hD : va_D A (ppW q h a0 a1 a2 a3 a4 a5 g b0 b1 cI fi la B G pr) := hD
        refine W.eq (g2 := F0 m 117 ls [.int (nI tot)]) rfl ?_
        rcases Nat.lt_or_ge 0 tot with k_15 | k_15
        · refine lv_if_le (tgt := 124) hx hb dL_isSo_117 (by decide) (fun c9 => absurd c9 ((nI_ge (a := 0) (b := tot) k_15 (by omega)))) (fun _ => ?_)
          refine lv_iconst (v := 1) hx hb dL_isSo_120 (by decide) ?_
          refine lv_goto (tgt := 125) hx hb dL_isSo_121 (by decide) ?_
          refine lv_aload_n hx hb dL_isSo_125 rfl (lv_at hl 3 rfl) ?_
          refine pq_callV (wr := []) (own := RL) (nL := 4) (q0 := 0) (ci := 2) [0, 1, 2, 3, 4, 5, 6, 7, 8, 9, 10] [] [] (f_meanVisits l D cI q h a0 a1 a2 a3 a4 a5 g b0 b1 I (by omega)) ⟨hx, hb, hml, hown, hts⟩ (cwV 0 hts gL_isSo_X2_meanVisits rfl rfl rfl (by decide +kernel) ⟨by dsimp only [pq_R]; omega, by dsimp only [pq_R]; omega⟩) pq_blE (hE.call hD hS hA [0, 1, 2, 3, 4, 5, 6, 7, 8, 9, 10] rfl) hK hP hD hS hA rfl (by decide) rfl (by decide) (by decide) rfl rfl rfl rfl hl.1 rfl (Nat.le_of_ble_eq_true rfl) dL_isSo_126 ⟨by dsimp only [pq_R]; omega, by dsimp only [pq_R]; omega⟩ (fun v w1 H locs hq hP hD hS hz => ?_)
          obtain ⟨d_16, rfl, dm_16, rfl⟩ := hq
          have hP : va_P D vwCl (ppW q h a0 a1 a2 a3 a4 a5 g b0 b1 cI fi la B G pr) H := hP
          have hD : va_D A (ppW q h a0 a1 a2 a3 a4 a5 g b0 b1 cI fi la B G pr) := hD
          refine W.eq (g2 := F0 m 129 ls [.double d_16, .int 1]) rfl ?_
          refine lv_dconst0 hx hb dL_isSo_129 ?_
          refine lv_dcmp hx hb dL_isSo_130 ?_
          refine lv_if_le (tgt := 138) hx hb dL_isSo_131 (by decide) (fun c9 => absurd c9 (Mv_p dm_16 (j_t1 I (by omega)))) (fun _ => ?_)
          refine lv_iconst (v := 1) hx hb dL_isSo_134 (by decide) ?_
          refine lv_goto (tgt := 139) hx hb dL_isSo_135 (by decide) ?_
          refine lv_icmp_ne (tgt := 146) hx hb dL_isSo_139 (by decide) (fun c9 => absurd c9 (by decide)) (fun _ => ?_)
          refine lv_iconst (v := 1) hx hb dL_isSo_142 (by decide) ?_
          refine lv_goto (tgt := 147) hx hb dL_isSo_143 (by decide) ?_
          exact pq_zret hQ hx hb hr hlocks hK hS hP hD dL_isSo_147 (by omega) (by omega) (by decide) (⟨rfl, rfl⟩)
        · refine lv_if_le (tgt := 124) hx hb dL_isSo_117 (by decide) (fun _ => ?_) (fun c9 => absurd ((nI_le (a := tot) (b := 0) k_15 (by omega))) c9)
          refine lv_iconst (v := 0) hx hb dL_isSo_124 (by decide) ?_
          refine lv_aload_n hx hb dL_isSo_125 rfl (lv_at hl 3 rfl) ?_
          refine pq_callV (wr := []) (own := RL) (nL := 4) (q0 := 0) (ci := 2) [0, 1, 2, 3, 4, 5, 6, 7, 8, 9, 10] [] [] (f_meanVisits l D cI q h a0 a1 a2 a3 a4 a5 g b0 b1 I (by omega)) ⟨hx, hb, hml, hown, hts⟩ (cwV 0 hts gL_isSo_X2_meanVisits rfl rfl rfl (by decide +kernel) ⟨by dsimp only [pq_R]; omega, by dsimp only [pq_R]; omega⟩) pq_blE (hE.call hD hS hA [0, 1, 2, 3, 4, 5, 6, 7, 8, 9, 10] rfl) hK hP hD hS hA rfl (by decide) rfl (by decide) (by decide) rfl rfl rfl rfl hl.1 rfl (Nat.le_of_ble_eq_true rfl) dL_isSo_126 ⟨by dsimp only [pq_R]; omega, by dsimp only [pq_R]; omega⟩ (fun v w1 H locs hq hP hD hS hz => ?_)
          obtain ⟨d_17, rfl, dm_17, rfl⟩ := hq
          have hP : va_P D vwCl (ppW q h a0 a1 a2 a3 a4 a5 g b0 b1 cI fi la B G pr) H := hP
          have hD : va_D A (ppW q h a0 a1 a2 a3 a4 a5 g b0 b1 cI fi la B G pr) := hD
          refine W.eq (g2 := F0 m 129 ls [.double d_17, .int 0]) rfl ?_
          refine lv_dconst0 hx hb dL_isSo_129 ?_
          refine lv_dcmp hx hb dL_isSo_130 ?_
          refine lv_if_le (tgt := 138) hx hb dL_isSo_131 (by decide) (fun _ => ?_) (fun c9 => absurd (Mv_z dm_17 (j_t0 I (by omega))) c9)
          refine lv_iconst (v := 0) hx hb dL_isSo_138 (by decide) ?_
          refine lv_icmp_ne (tgt := 146) hx hb dL_isSo_139 (by decide) (fun c9 => absurd c9 (by decide)) (fun _ => ?_)
          refine lv_iconst (v := 1) hx hb dL_isSo_142 (by decide) ?_
          refine lv_goto (tgt := 147) hx hb dL_isSo_143 (by decide) ?_
          exact pq_zret hQ hx hb hr hlocks hK hS hP hD dL_isSo_147 (by omega) (by omega) (by decide) (⟨rfl, rfl⟩)
  exact LP _ 0 0 (Nat.lt_succ_self _) (Nat.zero_le _) rfl (by omega) H locs ls hP hD hS (lv_sub hl [0, 1, 2, 3] rfl)

