/-! the law's loop -/
theorem lp_cmp {L i : Nat} (hL : L ≤ 2048) (hi : i ≤ 3000) : nI L - 4 < nI i ↔ L < i + 4 := by
  rw [i_lt', show (4 : Int32) = nI 4 from rfl, pk_sub_toInt (by omega) (by omega), nI_toInt (by omega)]
  omega
set_option maxHeartbeats 4000000 in
set_option maxRecDepth 100000 in
theorem law_exit0 {p : Program} {l : Launch} {ev : Env} {s : State} {m : MethodId} {b L : Nat} {xs : Nat → Int32} {below : List Frame} {meth : Method} {cd : Code} {o q h a0 a1 a2 a3 a4 a5 g b0 b1 mo z1 z2 z3 z4 z5 z6 z7 z8 z9 : Nat} {D : va_G} {cI cL : ClassId} (C : LC p l s m meth cd b L xs D cI cL) (hr : meth.sig.returnType = ret) (hlocks : meth.locks = false) (i n sl : Nat) (d0 : Drawn) (hd0 : s.drawn.sameBut d0 lw_cs) (hi : i ≤ L) (hk : L < i + 4 + 4 * 0) (hn : n + 6 * 0 ≤ 10000) (hsl : sl + 36 * 0 ≤ 100000) : LK p l ev (s.setDrawn d0) m b below meth cd (lw_Z below #[Value.ref b] s) o q h a0 a1 a2 a3 a4 a5 g b0 b1 mo z1 z2 z3 z4 z5 z6 z7 z8 z9 D cI cL i 23 n sl := by
  have Cd := C.drawn d0
  obtain ⟨hx, hb, hml, hown, hts, hX, hbl, hK, hE, hfl, hL⟩ := id Cd
  have hA : ∀ q : Nat, s.heap.size ≤ q → (fun q : Nat => s.heap.size ≤ q) q := fun _ h => h
  have hbA : ¬ (fun q : Nat => s.heap.size ≤ q) b := Nat.not_le.mpr hbl
  intro w H locs ls hI hP hD hS hl
  refine lv_iload hx hb dL_law_23 (lv_at hl 0 rfl) ?_
  refine lv_aload_n hx hb dL_law_25 rfl (lv_at hl 4 rfl) ?_
  refine va_slen hx hb hX hbl hbA hS dL_law_26 ?_
  refine pq_top (nI L) rfl ?_
  refine lv_iconst (v := 4) hx hb dL_law_27 (by decide) ?_
  refine lv_isub hx hb dL_law_28 ?_
  refine lv_icmp_gt (tgt := 1297) hx hb dL_law_29 (by decide) (fun _ => ?_) (fun c9 => absurd ((lp_cmp hL (by omega)).mpr (by omega)) c9)
  refine lv_iconst (v := 1) hx hb dL_law_1297 (by decide) ?_
  refine va_forget (fun q hq => hS.2.2 q hq) ?_
  refine W.widen (k := 601024) (n := 7293034) (by omega) (by omega) ?_
  exact lw_ret hd0 hx hb hr hlocks dL_law_1298
set_option maxHeartbeats 4000000 in
set_option maxRecDepth 100000 in
theorem law_step {p : Program} {l : Launch} {ev : Env} {s : State} {m : MethodId} {b L : Nat} {xs : Nat → Int32} {below : List Frame} {meth : Method} {cd : Code} {o q h a0 a1 a2 a3 a4 a5 g b0 b1 mo z1 z2 z3 z4 z5 z6 z7 z8 z9 : Nat} {D : va_G} {cI cL : ClassId} (C : LC p l s m meth cd b L xs D cI cL) (hr : meth.sig.returnType = ret) (hlocks : meth.locks = false) (k : Nat)
    (ih : ∀ (i n sl : Nat) (d0 : Drawn), s.drawn.sameBut d0 lw_cs → i ≤ L → L < i + 4 + 4 * k → n + 6 * k ≤ 10000 → sl + 36 * k ≤ 100000 → LK p l ev (s.setDrawn d0) m b below meth cd (lw_Z below #[Value.ref b] s) o q h a0 a1 a2 a3 a4 a5 g b0 b1 mo z1 z2 z3 z4 z5 z6 z7 z8 z9 D cI cL i 23 n sl)
    (i n sl : Nat) (d0 : Drawn) (hd0 : s.drawn.sameBut d0 lw_cs) (hi : i ≤ L) (hk : L < i + 4 + 4 * (k + 1)) (hn : n + 6 * (k + 1) ≤ 10000) (hsl : sl + 36 * (k + 1) ≤ 100000) : LK p l ev (s.setDrawn d0) m b below meth cd (lw_Z below #[Value.ref b] s) o q h a0 a1 a2 a3 a4 a5 g b0 b1 mo z1 z2 z3 z4 z5 z6 z7 z8 z9 D cI cL i 23 n sl := by
  have Cd := C.drawn d0
  obtain ⟨hx, hb, hml, hown, hts, hX, hbl, hK, hE, hfl, hL⟩ := id Cd
  have hA : ∀ q : Nat, s.heap.size ≤ q → (fun q : Nat => s.heap.size ≤ q) q := fun _ h => h
  have hbA : ¬ (fun q : Nat => s.heap.size ≤ q) b := Nat.not_le.mpr hbl
  intro w H locs ls hI hP hD hS hl
  refine lv_iload hx hb dL_law_23 (lv_at hl 0 rfl) ?_
  refine lv_aload_n hx hb dL_law_25 rfl (lv_at hl 4 rfl) ?_
  refine va_slen hx hb hX hbl hbA hS dL_law_26 ?_
  refine pq_top (nI L) rfl ?_
  refine lv_iconst (v := 4) hx hb dL_law_27 (by decide) ?_
  refine lv_isub hx hb dL_law_28 ?_
  refine lv_icmp_gt (tgt := 1297) hx hb dL_law_29 (by decide) (fun _ => ?_) (fun c9 => ?_)
  · skip
    refine lv_iconst (v := 1) hx hb dL_law_1297 (by decide) ?_
    refine va_forget (fun q hq => hS.2.2 q hq) ?_
    refine W.widen (k := 601024) (n := 7293034) (by omega) (by omega) ?_
    exact lw_ret hd0 hx hb hr hlocks dL_law_1298
  · have c8 : i + 4 ≤ L := by
      rcases Nat.lt_or_ge L (i + 4) with z | z
      · exact absurd ((lp_cmp hL (by omega)).mpr z) c9
      · exact z
    have Kd : ∀ d1 : Drawn, s.drawn.sameBut d1 lw_cs → LK p l ev (s.setDrawn d1) m b below meth cd (lw_Z below #[Value.ref b] s) o q h a0 a1 a2 a3 a4 a5 g b0 b1 mo z1 z2 z3 z4 z5 z6 z7 z8 z9 D cI cL i 1291 (n + 6) (sl + 36) := by
      intro d1 h1 w H locs ls hI hP hD hS hl
      obtain ⟨hx, hb, -⟩ := C.drawn d1
      refine lv_iinc (v := nI (i + 4)) (lv' := [(4, .int (nI (i + 4))), (3, .ref o), (2, .ref mo), (1, .ref q), (0, .ref b)]) hx hb dL_law_1291 hl (k := 0) rfl (nI_add _ 4) (by decide) rfl (fun ls hl => ?_)
      refine lv_goto (tgt := 23) hx hb dL_law_1294 (by decide) ?_
      exact ih (i + 4) (n + 6) (sl + 36) d1 h1 c8 (by omega) (by omega) (by omega) w H locs ls hI hP hD hS hl
    refine lv_aload_n hx hb dL_law_32 rfl (lv_at hl 4 rfl) ?_
    refine lv_iload hx hb dL_law_33 (lv_at hl 0 rfl) ?_
    refine va_sld hx hb hX hbl hbA hS (vp_in_nI (by omega) (by omega)) dL_law_35 ?_
    refine lv_bipush (v := 31) hx hb dL_law_36 (by decide) ?_
    refine lv_iand hx hb dL_law_38 ?_
    obtain ⟨j, hj, hj2⟩ := pk_andE (xs (nI i).toNatClampNeg) (m := 31) 5 (by decide)
    refine pq_top (nI j) hj2 ?_
    have hjc : j = 0 ∨ j = 1 ∨ j = 2 ∨ j = 3 ∨ j = 4 ∨ j = 5 ∨ j = 6 ∨ j = 7 ∨ j = 8 ∨ j = 9 ∨ j = 10 ∨ j = 11 ∨ j = 12 ∨ j = 13 ∨ j = 14 ∨ j = 15 ∨ j = 16 ∨ j = 17 ∨ j = 18 ∨ j = 19 ∨ j = 20 ∨ j = 21 ∨ j = 22 ∨ 23 ≤ j := by omega
    rcases hjc with rfl | rfl | rfl | rfl | rfl | rfl | rfl | rfl | rfl | rfl | rfl | rfl | rfl | rfl | rfl | rfl | rfl | rfl | rfl | rfl | rfl | rfl | rfl | h23
    · refine lv_tableIn (off := 105) (tgt := 144) hx hb dL_law_39 (by decide) (by decide) rfl (by decide) ?_
      exact law_layOut Cd c8 (by omega) (by omega) (Kd d0 hd0) w H locs ls hI hP hD hS hl
    · refine lv_tableIn (off := 173) (tgt := 212) hx hb dL_law_39 (by decide) (by decide) rfl (by decide) ?_
      exact law_pile Cd c8 (by omega) (by omega) (Kd d0 hd0) w H locs ls hI hP hD hS hl
    · refine lv_tableIn (off := 241) (tgt := 280) hx hb dL_law_39 (by decide) (by decide) rfl (by decide) ?_
      exact law_lower Cd c8 (by omega) (by omega) (Kd d0 hd0) w H locs ls hI hP hD hS hl
    · refine lv_tableIn (off := 321) (tgt := 360) hx hb dL_law_39 (by decide) (by decide) rfl (by decide) ?_
      exact law_earth Cd c8 (by omega) (by omega) (Kd d0 hd0) w H locs ls hI hP hD hS hl
    · refine lv_tableIn (off := 389) (tgt := 428) hx hb dL_law_39 (by decide) (by decide) rfl (by decide) ?_
      exact law_earthByColumns Cd c8 (by omega) (by omega) (Kd d0 hd0) w H locs ls hI hP hD hS hl
    · refine lv_tableIn (off := 457) (tgt := 496) hx hb dL_law_39 (by decide) (by decide) rfl (by decide) ?_
      exact law_top Cd c8 (by omega) (by omega) (Kd d0 hd0) w H locs ls hI hP hD hS hl
    · refine lv_tableIn (off := 525) (tgt := 564) hx hb dL_law_39 (by decide) (by decide) rfl (by decide) ?_
      exact law_height Cd c8 (by omega) (by omega) (Kd d0 hd0) w H locs ls hI hP hD hS hl
    · refine lv_tableIn (off := 581) (tgt := 620) hx hb dL_law_39 (by decide) (by decide) rfl (by decide) ?_
      exact law_heightOfColumn Cd c8 (by omega) (by omega) (Kd d0 hd0) w H locs ls hI hP hD hS hl
    · refine lv_tableIn (off := 637) (tgt := 676) hx hb dL_law_39 (by decide) (by decide) rfl (by decide) ?_
      exact law_wouldPress Cd c8 (by omega) (by omega) (Kd d0 hd0) w H locs ls hI hP hD hS hl
    · refine lv_tableIn (off := 717) (tgt := 756) hx hb dL_law_39 (by decide) (by decide) rfl (by decide) ?_
      exact law_ceilingFor Cd c8 (by omega) (by omega) (Kd d0 hd0) w H locs ls hI hP hD hS hl
    · refine lv_tableIn (off := 797) (tgt := 836) hx hb dL_law_39 (by decide) (by decide) rfl (by decide) ?_
      exact law_ceilingOver Cd c8 (by omega) (by omega) (Kd d0 hd0) w H locs ls hI hP hD hS hl
    · refine lv_tableIn (off := 853) (tgt := 892) hx hb dL_law_39 (by decide) (by decide) rfl (by decide) ?_
      exact law_columns Cd c8 (by omega) (by omega) (Kd d0 hd0) w H locs ls hI hP hD hS hl
    · refine lv_tableIn (off := 866) (tgt := 905) hx hb dL_law_39 (by decide) (by decide) rfl (by decide) ?_
      exact law_spanOf Cd c8 (by omega) (by omega) (Kd d0 hd0) w H locs ls hI hP hD hS hl
    · refine lv_tableIn (off := 922) (tgt := 961) hx hb dL_law_39 (by decide) (by decide) rfl (by decide) ?_
      exact law_greatest Cd c8 (by omega) (by omega) (Kd d0 hd0) w H locs ls hI hP hD hS hl
    · refine lv_tableIn (off := 978) (tgt := 1017) hx hb dL_law_39 (by decide) (by decide) rfl (by decide) ?_
      exact law_second Cd c8 (by omega) (by omega) (Kd d0 hd0) w H locs ls hI hP hD hS hl
    · refine lv_tableIn (off := 1034) (tgt := 1073) hx hb dL_law_39 (by decide) (by decide) rfl (by decide) ?_
      exact law_many Cd c8 (by omega) (by omega) (Kd d0 hd0) w H locs ls hI hP hD hS hl
    · refine lv_tableIn (off := 1090) (tgt := 1129) hx hb dL_law_39 (by decide) (by decide) rfl (by decide) ?_
      exact law_noted Cd c8 (by omega) (by omega) (Kd d0 hd0) w H locs ls hI hP hD hS hl
    · refine lv_tableIn (off := 1146) (tgt := 1185) hx hb dL_law_39 (by decide) (by decide) rfl (by decide) ?_
      exact law_lagging Cd c8 (by omega) (by omega) (Kd d0 hd0) w H locs ls hI hP hD hS hl
    · refine lv_tableIn (off := 1159) (tgt := 1198) hx hb dL_law_39 (by decide) (by decide) rfl (by decide) ?_
      exact law_visits Cd c8 (by omega) (by omega) (Kd d0 hd0) w H locs ls hI hP hD hS hl
    · refine lv_tableIn (off := 1172) (tgt := 1211) hx hb dL_law_39 (by decide) (by decide) rfl (by decide) ?_
      exact law_allVisits Cd c8 (by omega) (by omega) (Kd d0 hd0) w H locs ls hI hP hD hS hl
    · refine lv_tableIn (off := 1185) (tgt := 1224) hx hb dL_law_39 (by decide) (by decide) rfl (by decide) ?_
      exact law_pressedAway Cd c8 (by omega) (by omega) (Kd d0 hd0) w H locs ls hI hP hD hS hl
    · refine lv_tableIn (off := 1198) (tgt := 1237) hx hb dL_law_39 (by decide) (by decide) rfl (by decide) ?_
      exact law_pressedAwayByRest Cd c8 (by omega) (by omega) (Kd d0 hd0) w H locs ls hI hP hD hS hl
    · refine lv_tableIn (off := 1211) (tgt := 1250) hx hb dL_law_39 (by decide) (by decide) rfl (by decide) ?_
      exact law_mean Cd c8 (by omega) (by omega) (fun d1 h1 => Kd d1 (hd0.trans h1)) w H locs ls hI hP hD hS hl
    · refine lv_tableOut (tgt := 1291) hx hb dL_law_39 (Or.inr (by rw [nI_toInt (by omega)]; omega)) (by decide) ?_
      refine W.widen (k := n + 6) (n := sl + 36) (by omega) (by omega) ?_
      exact Kd d0 hd0 w H locs ls hI hP hD hS hl
set_option maxHeartbeats 4000000 in
set_option maxRecDepth 100000 in
theorem law_loop {p : Program} {l : Launch} {ev : Env} {s : State} {m : MethodId} {b L : Nat} {xs : Nat → Int32} {below : List Frame} {meth : Method} {cd : Code} {o q h a0 a1 a2 a3 a4 a5 g b0 b1 mo z1 z2 z3 z4 z5 z6 z7 z8 z9 : Nat} {D : va_G} {cI cL : ClassId} (C : LC p l s m meth cd b L xs D cI cL) (hr : meth.sig.returnType = ret) (hlocks : meth.locks = false) :
    ∀ (k i n sl : Nat) (d0 : Drawn), s.drawn.sameBut d0 lw_cs → i ≤ L → L < i + 4 + 4 * k → n + 6 * k ≤ 10000 → sl + 36 * k ≤ 100000 → LK p l ev (s.setDrawn d0) m b below meth cd (lw_Z below #[Value.ref b] s) o q h a0 a1 a2 a3 a4 a5 g b0 b1 mo z1 z2 z3 z4 z5 z6 z7 z8 z9 D cI cL i 23 n sl := by
  intro k
  induction k with
  | zero => exact law_exit0 C hr hlocks
  | succ k ih => exact law_step C hr hlocks k ih

