/-! the law, case by case -/
set_option maxHeartbeats 4000000 in
set_option maxRecDepth 100000 in
theorem law_wouldPress {p : Program} {l : Launch} {ev : Env} {s : State} {m : MethodId} {b L : Nat} {xs : Nat → Int32} {below : List Frame} {meth : Method} {cd : Code} {Q : State → Prop} {o q h a0 a1 a2 a3 a4 a5 g b0 b1 mo z1 z2 z3 z4 z5 z6 z7 z8 z9 : Nat} {D : va_G} {cI cL : ClassId} {i n sl : Nat} (C : LC p l s m meth cd b L xs D cI cL) (hi : i + 4 ≤ L) (hn : n + 6 ≤ 600000) (hsl : sl + 36 ≤ 7000000) (K : LK p l ev s m b below meth cd Q o q h a0 a1 a2 a3 a4 a5 g b0 b1 mo z1 z2 z3 z4 z5 z6 z7 z8 z9 D cI cL i 1291 (n + 6) (sl + 36)) : LK p l ev s m b below meth cd Q o q h a0 a1 a2 a3 a4 a5 g b0 b1 mo z1 z2 z3 z4 z5 z6 z7 z8 z9 D cI cL i 676 n sl := by
  obtain ⟨hx, hb, hml, hown, hts, hX, hbl, hK, hE, hfl, hL⟩ := C
  have hA : ∀ q : Nat, s.heap.size ≤ q → (fun q : Nat => s.heap.size ≤ q) q := fun _ h => h
  have hbA : ¬ (fun q : Nat => s.heap.size ≤ q) b := Nat.not_le.mpr hbl
  rintro w H locs ls ⟨fo, fi, la, B, G, pr, N, hs, cs, mf, ml, M, td, lf, laid, piled, prs, thr, col, rfl, rfl, I, hg, hpr⟩ hP hD hS hl
  have hN1 := I.1
  have hN2 := I.2.1
  have hNN : G.2.2.1 = nI N := I.2.2.2.2.2.2.2.2
  have hT := I.2.2.2.1
  have hN5 : N < 65 := by omega
  obtain ⟨x1, hx1⟩ : ∃ z, z = xs (nI (i + 1)).toNatClampNeg := ⟨_, rfl⟩
  obtain ⟨x2, hx2⟩ : ∃ z, z = xs (nI (i + 2)).toNatClampNeg := ⟨_, rfl⟩
  obtain ⟨x3, hx3⟩ : ∃ z, z = xs (nI (i + 3)).toNatClampNeg := ⟨_, rfl⟩
  refine lv_aload_n hx hb dL_law_676 rfl (lv_at hl 3 rfl) ?_
  refine lv_aload_n hx hb dL_law_677 rfl (lv_at hl 4 rfl) ?_
  refine lv_iload hx hb dL_law_678 (lv_at hl 0 rfl) ?_
  refine lv_iconst (v := 1) hx hb dL_law_680 (by decide) ?_
  refine lv_iadd hx hb dL_law_681 ?_
  refine pq_top (nI (i + 1)) (nI_1 _) ?_
  refine va_sld hx hb hX hbl hbA hS (vp_in_nI (by omega) (by omega)) dL_law_682 ?_
  rw [← hx1]
  refine lv_aload_n hx hb dL_law_683 rfl (lv_at hl 4 rfl) ?_
  refine lv_iload hx hb dL_law_684 (lv_at hl 0 rfl) ?_
  refine lv_iconst (v := 2) hx hb dL_law_686 (by decide) ?_
  refine lv_iadd hx hb dL_law_687 ?_
  refine pq_top (nI (i + 2)) (nI_add _ 2) ?_
  refine va_sld hx hb hX hbl hbA hS (vp_in_nI (by omega) (by omega)) dL_law_688 ?_
  rw [← hx2]
  refine lv_aload_n hx hb dL_law_689 rfl (lv_at hl 4 rfl) ?_
  refine lv_iload hx hb dL_law_690 (lv_at hl 0 rfl) ?_
  refine lv_iconst (v := 3) hx hb dL_law_692 (by decide) ?_
  refine lv_iadd hx hb dL_law_693 ?_
  refine pq_top (nI (i + 3)) (nI_add _ 3) ?_
  refine va_sld hx hb hX hbl hbA hS (vp_in_nI (by omega) (by omega)) dL_law_694 ?_
  rw [← hx3]
  refine lv_aload_n hx hb dL_law_695 rfl (lv_at hl 1 rfl) ?_
  refine pq_callSW (wr := mdW mo z1 z2 z3 z4 z5 z6 z7 z8 z9 cI (nI N) hs cs mf ml M td lf laid piled prs thr) (own := RL) (nL := 9) [0, 1, 2, 3, 4, 5, 6, 7, 8, 9, 10, 11] [12, 13, 14, 15, 16, 17, 18, 19, 20, 21] [.ref q, .int x1, .int x2, .int x3, .ref o] (mL_wouldPress l D cI cL o fo q h a0 a1 a2 a3 a4 a5 g b0 b1 fi la B G pr N hfl hNN hN1 hN2 x1 x2 x3) ⟨hx, hb, hml, hown, hts⟩ (vx_cwSW 5 hts gL_law_L_wouldPress rfl rfl rfl (by decide +kernel) ⟨Nat.le_of_ble_eq_true rfl, Nat.le_of_ble_eq_true rfl⟩) pq_blL (hE.call hD hS hA [0, 1, 2, 3, 4, 5, 6, 7, 8, 9, 10, 11] rfl) hK hP hD hS hA rfl (by decide) rfl (by decide) (by decide) rfl hl.1 rfl (Nat.le_of_ble_eq_true rfl) dL_law_696 ⟨by show n + 4 ≤ 601024; omega, by show sl + 24 ≤ 7293034; omega⟩ (fun v w1 H locs hq hP hD hS hz => ?_)
  rcases hq with ⟨r, wc, hpost, rfl, rfl⟩ | ⟨hne, rfl, rfl⟩
  · obtain ⟨kf, kt, hxf, hxt, hft, htN, hv, rfl, hc0⟩ := hpost
    have hr := vi_eq hv
    have hP : va_P D vwCl (lwW o (vp_updL fo 0 r.toInt64) q h a0 a1 a2 a3 a4 a5 g b0 b1 mo z1 z2 z3 z4 z5 z6 z7 z8 z9 cI cL fi la B G pr (nI N) hs cs mf ml M td lf laid piled prs thr) H := hP.sub [10, 11, 12, 13, 14, 15, 16, 17, 18, 19, 20, 21, 0, 1, 2, 3, 4, 5, 6, 7, 8, 9] rfl
    have hD : va_D (fun q : Nat => s.heap.size ≤ q) (lwW o (vp_updL fo 0 r.toInt64) q h a0 a1 a2 a3 a4 a5 g b0 b1 mo z1 z2 z3 z4 z5 z6 z7 z8 z9 cI cL fi la B G pr (nI N) hs cs mf ml M td lf laid piled prs thr) := hD.sub [10, 11, 12, 13, 14, 15, 16, 17, 18, 19, 20, 21, 0, 1, 2, 3, 4, 5, 6, 7, 8, 9] (by decide) rfl
    refine lv_istore (lv' := [(5, .int 0), (4, .int (nI i)), (3, .ref o), (2, .ref mo), (1, .ref q), (0, .ref b)]) hx hb dL_law_699 hl (by decide) rfl (fun ls hl => ?_)
    refine lv_aload_n hx hb dL_law_701 rfl (lv_at hl 3 rfl) ?_
    refine lv_aload_n hx hb dL_law_702 rfl (lv_at hl 5 rfl) ?_
    refine lv_iload hx hb dL_law_703 (lv_at hl 1 rfl) ?_
    refine lv_iconst (v := 1) hx hb dL_law_705 (by decide) ?_
    refine lv_iadd hx hb dL_law_706 ?_
    refine pq_top (nI (i + 1)) (nI_1 _) ?_
    refine va_sld hx hb hX hbl hbA hS (vp_in_nI (by omega) (by omega)) dL_law_707 ?_
    rw [← hx1]
    refine lv_aload_n hx hb dL_law_708 rfl (lv_at hl 5 rfl) ?_
    refine lv_iload hx hb dL_law_709 (lv_at hl 1 rfl) ?_
    refine lv_iconst (v := 2) hx hb dL_law_711 (by decide) ?_
    refine lv_iadd hx hb dL_law_712 ?_
    refine pq_top (nI (i + 2)) (nI_add _ 2) ?_
    refine va_sld hx hb hX hbl hbA hS (vp_in_nI (by omega) (by omega)) dL_law_713 ?_
    rw [← hx2]
    refine lv_aload_n hx hb dL_law_714 rfl (lv_at hl 5 rfl) ?_
    refine lv_iload hx hb dL_law_715 (lv_at hl 1 rfl) ?_
    refine lv_iconst (v := 3) hx hb dL_law_717 (by decide) ?_
    refine lv_iadd hx hb dL_law_718 ?_
    refine pq_top (nI (i + 3)) (nI_add _ 3) ?_
    refine va_sld hx hb hX hbl hbA hS (vp_in_nI (by omega) (by omega)) dL_law_719 ?_
    rw [← hx3]
    refine pq_callV (rest := []) (wr := (o, .inl (cL, 1, .inr (.inl (vp_updL fo 0 r.toInt64)))) :: ppW q h a0 a1 a2 a3 a4 a5 g b0 b1 cI fi la B G pr) (own := RL) (nL := 9) (q0 := 12) (ci := 3) [12, 13, 14, 15, 16, 17, 18, 19, 20, 21] [0, 1, 2, 3, 4, 5, 6, 7, 8, 9, 10, 11] [.int x1, .int x2, .int x3] (mX3_wouldPress l D cI mo z1 z2 z3 z4 z5 z6 z7 z8 z9 (nI N) hs cs mf ml M td lf laid piled prs thr x1 x2 x3 N rfl hN1 hN2) ⟨hx, hb, hml, hown, hts⟩ (cwV 3 hts gL_law_X3_wouldPress rfl rfl rfl (by decide +kernel) ⟨Nat.le_of_ble_eq_true rfl, Nat.le_of_ble_eq_true rfl⟩) pq_bl0 (fun _ _ _ => trivial) (hK.sub [0] rfl) hP hD hS hA rfl (by decide) rfl (by decide) (by decide) rfl rfl rfl rfl hl.1 rfl (Nat.le_of_ble_eq_true rfl) dL_law_720 ⟨by show n + 4 + 0 ≤ 601024; omega, by show sl + 24 + 0 ≤ 7293034; omega⟩ (fun v w1 H locs hq hP hD hS hz => ?_)
    rcases hq with ⟨hm, rfl, rfl⟩ | ⟨kf2, kt2, hxf2, hxt2, hft2, htN2, rfl, rfl, hm0⟩
    · exact (hm (by rw [hNN] at hc0; exact hc0)).elim
    · skip
      have hP : va_P D vwCl (lwW o (vp_updL fo 0 r.toInt64) q h a0 a1 a2 a3 a4 a5 g b0 b1 mo z1 z2 z3 z4 z5 z6 z7 z8 z9 cI cL fi la B G pr (nI N) hs cs mf ml M td lf laid piled prs 0) H := hP
      have hD : va_D (fun q : Nat => s.heap.size ≤ q) (lwW o (vp_updL fo 0 r.toInt64) q h a0 a1 a2 a3 a4 a5 g b0 b1 mo z1 z2 z3 z4 z5 z6 z7 z8 z9 cI cL fi la B G pr (nI N) hs cs mf ml M td lf laid piled prs 0) := hD
      refine W.eq (g2 := F0 m 723 ls [.int (mAbove hs kf2 (kt2 + 1 - kf2) x3)]) rfl ?_
      refine lv_istore (lv' := [(6, .int (mAbove hs kf2 (kt2 + 1 - kf2) x3)), (5, .int 0), (4, .int (nI i)), (3, .ref o), (2, .ref mo), (1, .ref q), (0, .ref b)]) hx hb dL_law_723 hl (by decide) rfl (fun ls hl => ?_)
      refine lv_aload_n hx hb dL_law_725 rfl (lv_at hl 4 rfl) ?_
      refine pq_callV (rest := []) (wr := (o, .inl (cL, 1, .inr (.inl (vp_updL fo 0 r.toInt64)))) :: ppW q h a0 a1 a2 a3 a4 a5 g b0 b1 cI fi la B G pr) (own := RL) (nL := 9) (q0 := 12) (ci := 3) [12, 13, 14, 15, 16, 17, 18, 19, 20, 21] [0, 1, 2, 3, 4, 5, 6, 7, 8, 9, 10, 11] [] (mX3_thrown l D cI mo z1 z2 z3 z4 z5 z6 z7 z8 z9 (nI N) hs cs mf ml M td lf laid piled prs 0) ⟨hx, hb, hml, hown, hts⟩ (cwV 0 hts gL_law_X3_thrown rfl rfl rfl (by decide +kernel) ⟨Nat.le_of_ble_eq_true rfl, Nat.le_of_ble_eq_true rfl⟩) pq_bl0 (fun _ _ _ => trivial) (hK.sub [0] rfl) hP hD hS hA rfl (by decide) rfl (by decide) (by decide) rfl rfl rfl rfl hl.1 rfl (Nat.le_of_ble_eq_true rfl) dL_law_726 ⟨by show n + 4 + 0 + 0 ≤ 601024; omega, by show sl + 24 + 0 + 0 ≤ 7293034; omega⟩ (fun v w1 H locs hq hP hD hS hz => ?_)
      obtain ⟨rfl, rfl⟩ := hq
      have hP : va_P D vwCl (lwW o (vp_updL fo 0 r.toInt64) q h a0 a1 a2 a3 a4 a5 g b0 b1 mo z1 z2 z3 z4 z5 z6 z7 z8 z9 cI cL fi la B G pr (nI N) hs cs mf ml M td lf laid piled prs 0) H := hP
      have hD : va_D (fun q : Nat => s.heap.size ≤ q) (lwW o (vp_updL fo 0 r.toInt64) q h a0 a1 a2 a3 a4 a5 g b0 b1 mo z1 z2 z3 z4 z5 z6 z7 z8 z9 cI cL fi la B G pr (nI N) hs cs mf ml M td lf laid piled prs 0) := hD
      refine W.eq (g2 := F0 m 729 ls [.int 0]) rfl ?_
      refine lv_iload hx hb dL_law_729 (lv_at hl 1 rfl) ?_
      refine lv_icmp_eq (tgt := 736) hx hb dL_law_731 (by decide) (fun _ => ?_) (fun c9 => absurd rfl c9)
      refine lv_iload hx hb dL_law_736 (lv_at hl 1 rfl) ?_
      refine lv_if_ne (tgt := 753) hx hb dL_law_738 (by decide) (fun c9 => absurd rfl c9) (fun _ => ?_)
      refine lv_aload_n hx hb dL_law_741 rfl (lv_at hl 3 rfl) ?_
      refine lv_iconst (v := 0) hx hb dL_law_742 (by decide) ?_
      refine pq_lald hx hb hK hP 0 1 rfl rfl dL_law_743 ?_
      have hkf : kf = kf2 := nI_inj (by omega) (by omega) (hxf.symm.trans hxf2)
      have hkt : kt = kt2 := nI_inj (by omega) (by omega) (hxt.symm.trans hxt2)
      subst hkf
      subst hkt
      have hans := hr.trans (st_would I hft htN hm0)
      have I2 := I
      have hg2 := hg
      have hpr2 := hpr
      rw [updL_0, hans]
      refine lv_iload hx hb dL_law_744 (lv_at hl 0 rfl) ?_
      refine lv_i2l hx hb dL_law_746 rfl ?_
      refine W.lcmp hx hb dL_law_747 ?_
      rw [lg_cmp_s]
      refine lv_if_eq (tgt := 753) hx hb dL_law_748 (by decide) (fun _ => ?_) (fun c9 => absurd rfl c9)
      refine lv_goto (tgt := 1291) hx hb dL_law_753 (by decide) ?_
      refine W.widen (k := n + 6) (n := sl + 36) (by omega) (by omega) ?_
      exact K _ H locs ls ⟨_, _, _, _, _, _, _, _, _, _, _, _, _, _, _, _, _, _, _, rfl, rfl, I2, hg2, hpr2⟩ hP hD hS (lv_sub hl [2, 3, 4, 5, 6] rfl)
  · skip
    have hP : va_P D vwCl (lwW o fo q h a0 a1 a2 a3 a4 a5 g b0 b1 mo z1 z2 z3 z4 z5 z6 z7 z8 z9 cI cL fi la B G pr (nI N) hs cs mf ml M td lf laid piled prs thr) H := hP.sub [10, 11, 12, 13, 14, 15, 16, 17, 18, 19, 20, 21, 0, 1, 2, 3, 4, 5, 6, 7, 8, 9] rfl
    have hD : va_D (fun q : Nat => s.heap.size ≤ q) (lwW o fo q h a0 a1 a2 a3 a4 a5 g b0 b1 mo z1 z2 z3 z4 z5 z6 z7 z8 z9 cI cL fi la B G pr (nI N) hs cs mf ml M td lf laid piled prs thr) := hD.sub [10, 11, 12, 13, 14, 15, 16, 17, 18, 19, 20, 21, 0, 1, 2, 3, 4, 5, 6, 7, 8, 9] (by decide) rfl
    refine lv_istore (lv' := [(5, .int (cLow G.2.2.1 x1 x2 x3 0 1000)), (4, .int (nI i)), (3, .ref o), (2, .ref mo), (1, .ref q), (0, .ref b)]) hx hb dL_law_699 hl (by decide) rfl (fun ls hl => ?_)
    refine lv_aload_n hx hb dL_law_701 rfl (lv_at hl 3 rfl) ?_
    refine lv_aload_n hx hb dL_law_702 rfl (lv_at hl 5 rfl) ?_
    refine lv_iload hx hb dL_law_703 (lv_at hl 1 rfl) ?_
    refine lv_iconst (v := 1) hx hb dL_law_705 (by decide) ?_
    refine lv_iadd hx hb dL_law_706 ?_
    refine pq_top (nI (i + 1)) (nI_1 _) ?_
    refine va_sld hx hb hX hbl hbA hS (vp_in_nI (by omega) (by omega)) dL_law_707 ?_
    rw [← hx1]
    refine lv_aload_n hx hb dL_law_708 rfl (lv_at hl 5 rfl) ?_
    refine lv_iload hx hb dL_law_709 (lv_at hl 1 rfl) ?_
    refine lv_iconst (v := 2) hx hb dL_law_711 (by decide) ?_
    refine lv_iadd hx hb dL_law_712 ?_
    refine pq_top (nI (i + 2)) (nI_add _ 2) ?_
    refine va_sld hx hb hX hbl hbA hS (vp_in_nI (by omega) (by omega)) dL_law_713 ?_
    rw [← hx2]
    refine lv_aload_n hx hb dL_law_714 rfl (lv_at hl 5 rfl) ?_
    refine lv_iload hx hb dL_law_715 (lv_at hl 1 rfl) ?_
    refine lv_iconst (v := 3) hx hb dL_law_717 (by decide) ?_
    refine lv_iadd hx hb dL_law_718 ?_
    refine pq_top (nI (i + 3)) (nI_add _ 3) ?_
    refine va_sld hx hb hX hbl hbA hS (vp_in_nI (by omega) (by omega)) dL_law_719 ?_
    rw [← hx3]
    refine pq_callV (rest := []) (wr := (o, .inl (cL, 1, .inr (.inl fo))) :: ppW q h a0 a1 a2 a3 a4 a5 g b0 b1 cI fi la B G pr) (own := RL) (nL := 9) (q0 := 12) (ci := 3) [12, 13, 14, 15, 16, 17, 18, 19, 20, 21] [0, 1, 2, 3, 4, 5, 6, 7, 8, 9, 10, 11] [.int x1, .int x2, .int x3] (mX3_wouldPress l D cI mo z1 z2 z3 z4 z5 z6 z7 z8 z9 (nI N) hs cs mf ml M td lf laid piled prs thr x1 x2 x3 N rfl hN1 hN2) ⟨hx, hb, hml, hown, hts⟩ (cwV 3 hts gL_law_X3_wouldPress rfl rfl rfl (by decide +kernel) ⟨Nat.le_of_ble_eq_true rfl, Nat.le_of_ble_eq_true rfl⟩) pq_bl0 (fun _ _ _ => trivial) (hK.sub [0] rfl) hP hD hS hA rfl (by decide) rfl (by decide) (by decide) rfl rfl rfl rfl hl.1 rfl (Nat.le_of_ble_eq_true rfl) dL_law_720 ⟨by show n + 4 + 0 ≤ 601024; omega, by show sl + 24 + 0 ≤ 7293034; omega⟩ (fun v w1 H locs hq hP hD hS hz => ?_)
    rcases hq with ⟨hm, rfl, rfl⟩ | ⟨kf2, kt2, hxf2, hxt2, hft2, htN2, rfl, rfl, hm0⟩
    · skip
      have hP : va_P D vwCl (lwW o fo q h a0 a1 a2 a3 a4 a5 g b0 b1 mo z1 z2 z3 z4 z5 z6 z7 z8 z9 cI cL fi la B G pr (nI N) hs cs mf ml M td lf laid piled prs (cLow (nI N) x1 x2 x3 0 1000)) H := hP
      have hD : va_D (fun q : Nat => s.heap.size ≤ q) (lwW o fo q h a0 a1 a2 a3 a4 a5 g b0 b1 mo z1 z2 z3 z4 z5 z6 z7 z8 z9 cI cL fi la B G pr (nI N) hs cs mf ml M td lf laid piled prs (cLow (nI N) x1 x2 x3 0 1000)) := hD
      refine W.eq (g2 := F0 m 723 ls [.int 0]) rfl ?_
      refine lv_istore (lv' := [(6, .int 0), (5, .int (cLow G.2.2.1 x1 x2 x3 0 1000)), (4, .int (nI i)), (3, .ref o), (2, .ref mo), (1, .ref q), (0, .ref b)]) hx hb dL_law_723 hl (by decide) rfl (fun ls hl => ?_)
      refine lv_aload_n hx hb dL_law_725 rfl (lv_at hl 4 rfl) ?_
      refine pq_callV (rest := []) (wr := (o, .inl (cL, 1, .inr (.inl fo))) :: ppW q h a0 a1 a2 a3 a4 a5 g b0 b1 cI fi la B G pr) (own := RL) (nL := 9) (q0 := 12) (ci := 3) [12, 13, 14, 15, 16, 17, 18, 19, 20, 21] [0, 1, 2, 3, 4, 5, 6, 7, 8, 9, 10, 11] [] (mX3_thrown l D cI mo z1 z2 z3 z4 z5 z6 z7 z8 z9 (nI N) hs cs mf ml M td lf laid piled prs (cLow (nI N) x1 x2 x3 0 1000)) ⟨hx, hb, hml, hown, hts⟩ (cwV 0 hts gL_law_X3_thrown rfl rfl rfl (by decide +kernel) ⟨Nat.le_of_ble_eq_true rfl, Nat.le_of_ble_eq_true rfl⟩) pq_bl0 (fun _ _ _ => trivial) (hK.sub [0] rfl) hP hD hS hA rfl (by decide) rfl (by decide) (by decide) rfl rfl rfl rfl hl.1 rfl (Nat.le_of_ble_eq_true rfl) dL_law_726 ⟨by show n + 4 + 0 + 0 ≤ 601024; omega, by show sl + 24 + 0 + 0 ≤ 7293034; omega⟩ (fun v w1 H locs hq hP hD hS hz => ?_)
      obtain ⟨rfl, rfl⟩ := hq
      have hP : va_P D vwCl (lwW o fo q h a0 a1 a2 a3 a4 a5 g b0 b1 mo z1 z2 z3 z4 z5 z6 z7 z8 z9 cI cL fi la B G pr (nI N) hs cs mf ml M td lf laid piled prs (cLow (nI N) x1 x2 x3 0 1000)) H := hP
      have hD : va_D (fun q : Nat => s.heap.size ≤ q) (lwW o fo q h a0 a1 a2 a3 a4 a5 g b0 b1 mo z1 z2 z3 z4 z5 z6 z7 z8 z9 cI cL fi la B G pr (nI N) hs cs mf ml M td lf laid piled prs (cLow (nI N) x1 x2 x3 0 1000)) := hD
      refine W.eq (g2 := F0 m 729 ls [.int (cLow (nI N) x1 x2 x3 0 1000)]) rfl ?_
      refine lv_iload hx hb dL_law_729 (lv_at hl 1 rfl) ?_
      refine lv_icmp_eq (tgt := 736) hx hb dL_law_731 (by decide) (fun _ => ?_) (fun c9 => absurd (by rw [hNN]) c9)
      refine lv_iload hx hb dL_law_736 (lv_at hl 1 rfl) ?_
      refine lv_if_ne (tgt := 753) hx hb dL_law_738 (by decide) (fun _ => ?_) (fun c9 => absurd c9 hne)
      refine lv_goto (tgt := 1291) hx hb dL_law_753 (by decide) ?_
      refine W.widen (k := n + 6) (n := sl + 36) (by omega) (by omega) ?_
      exact K _ H locs ls ⟨_, _, _, _, _, _, _, _, _, _, _, _, _, _, _, _, _, _, _, rfl, rfl, I, hg, hpr⟩ hP hD hS (lv_sub hl [2, 3, 4, 5, 6] rfl)
    · exact (hne (by rw [hNN]; exact hm0)).elim

set_option maxHeartbeats 4000000 in
set_option maxRecDepth 100000 in
theorem law_ceilingFor {p : Program} {l : Launch} {ev : Env} {s : State} {m : MethodId} {b L : Nat} {xs : Nat → Int32} {below : List Frame} {meth : Method} {cd : Code} {Q : State → Prop} {o q h a0 a1 a2 a3 a4 a5 g b0 b1 mo z1 z2 z3 z4 z5 z6 z7 z8 z9 : Nat} {D : va_G} {cI cL : ClassId} {i n sl : Nat} (C : LC p l s m meth cd b L xs D cI cL) (hi : i + 4 ≤ L) (hn : n + 6 ≤ 600000) (hsl : sl + 36 ≤ 7000000) (K : LK p l ev s m b below meth cd Q o q h a0 a1 a2 a3 a4 a5 g b0 b1 mo z1 z2 z3 z4 z5 z6 z7 z8 z9 D cI cL i 1291 (n + 6) (sl + 36)) : LK p l ev s m b below meth cd Q o q h a0 a1 a2 a3 a4 a5 g b0 b1 mo z1 z2 z3 z4 z5 z6 z7 z8 z9 D cI cL i 756 n sl := by
  obtain ⟨hx, hb, hml, hown, hts, hX, hbl, hK, hE, hfl, hL⟩ := C
  have hA : ∀ q : Nat, s.heap.size ≤ q → (fun q : Nat => s.heap.size ≤ q) q := fun _ h => h
  have hbA : ¬ (fun q : Nat => s.heap.size ≤ q) b := Nat.not_le.mpr hbl
  rintro w H locs ls ⟨fo, fi, la, B, G, pr, N, hs, cs, mf, ml, M, td, lf, laid, piled, prs, thr, col, rfl, rfl, I, hg, hpr⟩ hP hD hS hl
  have hN1 := I.1
  have hN2 := I.2.1
  have hNN : G.2.2.1 = nI N := I.2.2.2.2.2.2.2.2
  have hT := I.2.2.2.1
  have hN5 : N < 65 := by omega
  obtain ⟨x1, hx1⟩ : ∃ z, z = xs (nI (i + 1)).toNatClampNeg := ⟨_, rfl⟩
  obtain ⟨x2, hx2⟩ : ∃ z, z = xs (nI (i + 2)).toNatClampNeg := ⟨_, rfl⟩
  obtain ⟨x3, hx3⟩ : ∃ z, z = xs (nI (i + 3)).toNatClampNeg := ⟨_, rfl⟩
  refine lv_aload_n hx hb dL_law_756 rfl (lv_at hl 3 rfl) ?_
  refine lv_aload_n hx hb dL_law_757 rfl (lv_at hl 4 rfl) ?_
  refine lv_iload hx hb dL_law_758 (lv_at hl 0 rfl) ?_
  refine lv_iconst (v := 1) hx hb dL_law_760 (by decide) ?_
  refine lv_iadd hx hb dL_law_761 ?_
  refine pq_top (nI (i + 1)) (nI_1 _) ?_
  refine va_sld hx hb hX hbl hbA hS (vp_in_nI (by omega) (by omega)) dL_law_762 ?_
  rw [← hx1]
  refine lv_aload_n hx hb dL_law_763 rfl (lv_at hl 4 rfl) ?_
  refine lv_iload hx hb dL_law_764 (lv_at hl 0 rfl) ?_
  refine lv_iconst (v := 2) hx hb dL_law_766 (by decide) ?_
  refine lv_iadd hx hb dL_law_767 ?_
  refine pq_top (nI (i + 2)) (nI_add _ 2) ?_
  refine va_sld hx hb hX hbl hbA hS (vp_in_nI (by omega) (by omega)) dL_law_768 ?_
  rw [← hx2]
  refine lv_aload_n hx hb dL_law_769 rfl (lv_at hl 4 rfl) ?_
  refine lv_iload hx hb dL_law_770 (lv_at hl 0 rfl) ?_
  refine lv_iconst (v := 3) hx hb dL_law_772 (by decide) ?_
  refine lv_iadd hx hb dL_law_773 ?_
  refine pq_top (nI (i + 3)) (nI_add _ 3) ?_
  refine va_sld hx hb hX hbl hbA hS (vp_in_nI (by omega) (by omega)) dL_law_774 ?_
  rw [← hx3]
  refine lv_aload_n hx hb dL_law_775 rfl (lv_at hl 1 rfl) ?_
  refine pq_callSW (wr := mdW mo z1 z2 z3 z4 z5 z6 z7 z8 z9 cI (nI N) hs cs mf ml M td lf laid piled prs thr) (own := RL) (nL := 9) [0, 1, 2, 3, 4, 5, 6, 7, 8, 9, 10, 11] [12, 13, 14, 15, 16, 17, 18, 19, 20, 21] [.ref q, .int x1, .int x2, .int x3, .ref o] (mL_ceilingFor l D cI cL o fo q h a0 a1 a2 a3 a4 a5 g b0 b1 fi la B G pr N hfl hNN hN1 hN2 x1 x2 x3) ⟨hx, hb, hml, hown, hts⟩ (vx_cwSW 5 hts gL_law_L_ceilingFor rfl rfl rfl (by decide +kernel) ⟨Nat.le_of_ble_eq_true rfl, Nat.le_of_ble_eq_true rfl⟩) pq_blL (hE.call hD hS hA [0, 1, 2, 3, 4, 5, 6, 7, 8, 9, 10, 11] rfl) hK hP hD hS hA rfl (by decide) rfl (by decide) (by decide) rfl hl.1 rfl (Nat.le_of_ble_eq_true rfl) dL_law_776 ⟨by show n + 5 ≤ 601024; omega, by show sl + 30 ≤ 7293034; omega⟩ (fun v w1 H locs hq hP hD hS hz => ?_)
  rcases hq with ⟨r, wc, hpost, rfl, rfl⟩ | ⟨hne, rfl, rfl⟩
  · obtain ⟨kf, kt, hxf, hxt, hft, htN, hv, rfl, hc0⟩ := hpost
    have hr := vi_eq hv
    have hP : va_P D vwCl (lwW o (vp_updL fo 0 r.toInt64) q h a0 a1 a2 a3 a4 a5 g b0 b1 mo z1 z2 z3 z4 z5 z6 z7 z8 z9 cI cL fi la B G pr (nI N) hs cs mf ml M td lf laid piled prs thr) H := hP.sub [10, 11, 12, 13, 14, 15, 16, 17, 18, 19, 20, 21, 0, 1, 2, 3, 4, 5, 6, 7, 8, 9] rfl
    have hD : va_D (fun q : Nat => s.heap.size ≤ q) (lwW o (vp_updL fo 0 r.toInt64) q h a0 a1 a2 a3 a4 a5 g b0 b1 mo z1 z2 z3 z4 z5 z6 z7 z8 z9 cI cL fi la B G pr (nI N) hs cs mf ml M td lf laid piled prs thr) := hD.sub [10, 11, 12, 13, 14, 15, 16, 17, 18, 19, 20, 21, 0, 1, 2, 3, 4, 5, 6, 7, 8, 9] (by decide) rfl
    refine lv_istore (lv' := [(5, .int 0), (4, .int (nI i)), (3, .ref o), (2, .ref mo), (1, .ref q), (0, .ref b)]) hx hb dL_law_779 hl (by decide) rfl (fun ls hl => ?_)
    refine lv_aload_n hx hb dL_law_781 rfl (lv_at hl 3 rfl) ?_
    refine lv_aload_n hx hb dL_law_782 rfl (lv_at hl 5 rfl) ?_
    refine lv_iload hx hb dL_law_783 (lv_at hl 1 rfl) ?_
    refine lv_iconst (v := 1) hx hb dL_law_785 (by decide) ?_
    refine lv_iadd hx hb dL_law_786 ?_
    refine pq_top (nI (i + 1)) (nI_1 _) ?_
    refine va_sld hx hb hX hbl hbA hS (vp_in_nI (by omega) (by omega)) dL_law_787 ?_
    rw [← hx1]
    refine lv_aload_n hx hb dL_law_788 rfl (lv_at hl 5 rfl) ?_
    refine lv_iload hx hb dL_law_789 (lv_at hl 1 rfl) ?_
    refine lv_iconst (v := 2) hx hb dL_law_791 (by decide) ?_
    refine lv_iadd hx hb dL_law_792 ?_
    refine pq_top (nI (i + 2)) (nI_add _ 2) ?_
    refine va_sld hx hb hX hbl hbA hS (vp_in_nI (by omega) (by omega)) dL_law_793 ?_
    rw [← hx2]
    refine lv_aload_n hx hb dL_law_794 rfl (lv_at hl 5 rfl) ?_
    refine lv_iload hx hb dL_law_795 (lv_at hl 1 rfl) ?_
    refine lv_iconst (v := 3) hx hb dL_law_797 (by decide) ?_
    refine lv_iadd hx hb dL_law_798 ?_
    refine pq_top (nI (i + 3)) (nI_add _ 3) ?_
    refine va_sld hx hb hX hbl hbA hS (vp_in_nI (by omega) (by omega)) dL_law_799 ?_
    rw [← hx3]
    refine pq_callV (rest := []) (wr := (o, .inl (cL, 1, .inr (.inl (vp_updL fo 0 r.toInt64)))) :: ppW q h a0 a1 a2 a3 a4 a5 g b0 b1 cI fi la B G pr) (own := RL) (nL := 9) (q0 := 12) (ci := 3) [12, 13, 14, 15, 16, 17, 18, 19, 20, 21] [0, 1, 2, 3, 4, 5, 6, 7, 8, 9, 10, 11] [.int x1, .int x2, .int x3] (mX3_ceilingFor l D cI mo z1 z2 z3 z4 z5 z6 z7 z8 z9 (nI N) hs cs mf ml M td lf laid piled prs thr x1 x2 x3 N rfl hN1 hN2) ⟨hx, hb, hml, hown, hts⟩ (cwV 3 hts gL_law_X3_ceilingFor rfl rfl rfl (by decide +kernel) ⟨Nat.le_of_ble_eq_true rfl, Nat.le_of_ble_eq_true rfl⟩) pq_bl0 (fun _ _ _ => trivial) (hK.sub [0] rfl) hP hD hS hA rfl (by decide) rfl (by decide) (by decide) rfl rfl rfl rfl hl.1 rfl (Nat.le_of_ble_eq_true rfl) dL_law_800 ⟨by show n + 5 + 0 ≤ 601024; omega, by show sl + 30 + 0 ≤ 7293034; omega⟩ (fun v w1 H locs hq hP hD hS hz => ?_)
    rcases hq with ⟨hm, rfl, rfl⟩ | ⟨kf2, kt2, hxf2, hxt2, hft2, htN2, rfl, rfl, hm0⟩
    · exact (hm ((iv_cfor I x1 x2 x3).symm.trans hc0)).elim
    · skip
      have hP : va_P D vwCl (lwW o (vp_updL fo 0 r.toInt64) q h a0 a1 a2 a3 a4 a5 g b0 b1 mo z1 z2 z3 z4 z5 z6 z7 z8 z9 cI cL fi la B G pr (nI N) hs cs mf ml M td lf laid piled prs 0) H := hP
      have hD : va_D (fun q : Nat => s.heap.size ≤ q) (lwW o (vp_updL fo 0 r.toInt64) q h a0 a1 a2 a3 a4 a5 g b0 b1 mo z1 z2 z3 z4 z5 z6 z7 z8 z9 cI cL fi la B G pr (nI N) hs cs mf ml M td lf laid piled prs 0) := hD
      refine W.eq (g2 := F0 m 803 ls [.int (nI (mSeek (mAbove hs kf2 (kt2 + 1 - kf2)) x3 1000))]) rfl ?_
      refine lv_istore (lv' := [(6, .int (nI (mSeek (mAbove hs kf2 (kt2 + 1 - kf2)) x3 1000))), (5, .int 0), (4, .int (nI i)), (3, .ref o), (2, .ref mo), (1, .ref q), (0, .ref b)]) hx hb dL_law_803 hl (by decide) rfl (fun ls hl => ?_)
      refine lv_aload_n hx hb dL_law_805 rfl (lv_at hl 4 rfl) ?_
      refine pq_callV (rest := []) (wr := (o, .inl (cL, 1, .inr (.inl (vp_updL fo 0 r.toInt64)))) :: ppW q h a0 a1 a2 a3 a4 a5 g b0 b1 cI fi la B G pr) (own := RL) (nL := 9) (q0 := 12) (ci := 3) [12, 13, 14, 15, 16, 17, 18, 19, 20, 21] [0, 1, 2, 3, 4, 5, 6, 7, 8, 9, 10, 11] [] (mX3_thrown l D cI mo z1 z2 z3 z4 z5 z6 z7 z8 z9 (nI N) hs cs mf ml M td lf laid piled prs 0) ⟨hx, hb, hml, hown, hts⟩ (cwV 0 hts gL_law_X3_thrown rfl rfl rfl (by decide +kernel) ⟨Nat.le_of_ble_eq_true rfl, Nat.le_of_ble_eq_true rfl⟩) pq_bl0 (fun _ _ _ => trivial) (hK.sub [0] rfl) hP hD hS hA rfl (by decide) rfl (by decide) (by decide) rfl rfl rfl rfl hl.1 rfl (Nat.le_of_ble_eq_true rfl) dL_law_806 ⟨by show n + 5 + 0 + 0 ≤ 601024; omega, by show sl + 30 + 0 + 0 ≤ 7293034; omega⟩ (fun v w1 H locs hq hP hD hS hz => ?_)
      obtain ⟨rfl, rfl⟩ := hq
      have hP : va_P D vwCl (lwW o (vp_updL fo 0 r.toInt64) q h a0 a1 a2 a3 a4 a5 g b0 b1 mo z1 z2 z3 z4 z5 z6 z7 z8 z9 cI cL fi la B G pr (nI N) hs cs mf ml M td lf laid piled prs 0) H := hP
      have hD : va_D (fun q : Nat => s.heap.size ≤ q) (lwW o (vp_updL fo 0 r.toInt64) q h a0 a1 a2 a3 a4 a5 g b0 b1 mo z1 z2 z3 z4 z5 z6 z7 z8 z9 cI cL fi la B G pr (nI N) hs cs mf ml M td lf laid piled prs 0) := hD
      refine W.eq (g2 := F0 m 809 ls [.int 0]) rfl ?_
      refine lv_iload hx hb dL_law_809 (lv_at hl 1 rfl) ?_
      refine lv_icmp_eq (tgt := 816) hx hb dL_law_811 (by decide) (fun _ => ?_) (fun c9 => absurd rfl c9)
      refine lv_iload hx hb dL_law_816 (lv_at hl 1 rfl) ?_
      refine lv_if_ne (tgt := 833) hx hb dL_law_818 (by decide) (fun c9 => absurd rfl c9) (fun _ => ?_)
      refine lv_aload_n hx hb dL_law_821 rfl (lv_at hl 3 rfl) ?_
      refine lv_iconst (v := 0) hx hb dL_law_822 (by decide) ?_
      refine pq_lald hx hb hK hP 0 1 rfl rfl dL_law_823 ?_
      have hkf : kf = kf2 := nI_inj (by omega) (by omega) (hxf.symm.trans hxf2)
      have hkt : kt = kt2 := nI_inj (by omega) (by omega) (hxt.symm.trans hxt2)
      subst hkf
      subst hkt
      rw [hxf, hxt] at hm0
      have hans := hr.trans (st_for I hft htN hm0)
      have I2 := I
      have hg2 := hg
      have hpr2 := hpr
      rw [updL_0, hans]
      refine lv_iload hx hb dL_law_824 (lv_at hl 0 rfl) ?_
      refine lv_i2l hx hb dL_law_826 rfl ?_
      refine W.lcmp hx hb dL_law_827 ?_
      rw [lg_cmp_s]
      refine lv_if_eq (tgt := 833) hx hb dL_law_828 (by decide) (fun _ => ?_) (fun c9 => absurd rfl c9)
      refine lv_goto (tgt := 1291) hx hb dL_law_833 (by decide) ?_
      refine W.widen (k := n + 6) (n := sl + 36) (by omega) (by omega) ?_
      exact K _ H locs ls ⟨_, _, _, _, _, _, _, _, _, _, _, _, _, _, _, _, _, _, _, rfl, rfl, I2, hg2, hpr2⟩ hP hD hS (lv_sub hl [2, 3, 4, 5, 6] rfl)
  · skip
    have hP : va_P D vwCl (lwW o fo q h a0 a1 a2 a3 a4 a5 g b0 b1 mo z1 z2 z3 z4 z5 z6 z7 z8 z9 cI cL fi la B G pr (nI N) hs cs mf ml M td lf laid piled prs thr) H := hP.sub [10, 11, 12, 13, 14, 15, 16, 17, 18, 19, 20, 21, 0, 1, 2, 3, 4, 5, 6, 7, 8, 9] rfl
    have hD : va_D (fun q : Nat => s.heap.size ≤ q) (lwW o fo q h a0 a1 a2 a3 a4 a5 g b0 b1 mo z1 z2 z3 z4 z5 z6 z7 z8 z9 cI cL fi la B G pr (nI N) hs cs mf ml M td lf laid piled prs thr) := hD.sub [10, 11, 12, 13, 14, 15, 16, 17, 18, 19, 20, 21, 0, 1, 2, 3, 4, 5, 6, 7, 8, 9] (by decide) rfl
    refine lv_istore (lv' := [(5, .int (cFor G.2.2.1 G.1 x1 x2 x3)), (4, .int (nI i)), (3, .ref o), (2, .ref mo), (1, .ref q), (0, .ref b)]) hx hb dL_law_779 hl (by decide) rfl (fun ls hl => ?_)
    refine lv_aload_n hx hb dL_law_781 rfl (lv_at hl 3 rfl) ?_
    refine lv_aload_n hx hb dL_law_782 rfl (lv_at hl 5 rfl) ?_
    refine lv_iload hx hb dL_law_783 (lv_at hl 1 rfl) ?_
    refine lv_iconst (v := 1) hx hb dL_law_785 (by decide) ?_
    refine lv_iadd hx hb dL_law_786 ?_
    refine pq_top (nI (i + 1)) (nI_1 _) ?_
    refine va_sld hx hb hX hbl hbA hS (vp_in_nI (by omega) (by omega)) dL_law_787 ?_
    rw [← hx1]
    refine lv_aload_n hx hb dL_law_788 rfl (lv_at hl 5 rfl) ?_
    refine lv_iload hx hb dL_law_789 (lv_at hl 1 rfl) ?_
    refine lv_iconst (v := 2) hx hb dL_law_791 (by decide) ?_
    refine lv_iadd hx hb dL_law_792 ?_
    refine pq_top (nI (i + 2)) (nI_add _ 2) ?_
    refine va_sld hx hb hX hbl hbA hS (vp_in_nI (by omega) (by omega)) dL_law_793 ?_
    rw [← hx2]
    refine lv_aload_n hx hb dL_law_794 rfl (lv_at hl 5 rfl) ?_
    refine lv_iload hx hb dL_law_795 (lv_at hl 1 rfl) ?_
    refine lv_iconst (v := 3) hx hb dL_law_797 (by decide) ?_
    refine lv_iadd hx hb dL_law_798 ?_
    refine pq_top (nI (i + 3)) (nI_add _ 3) ?_
    refine va_sld hx hb hX hbl hbA hS (vp_in_nI (by omega) (by omega)) dL_law_799 ?_
    rw [← hx3]
    refine pq_callV (rest := []) (wr := (o, .inl (cL, 1, .inr (.inl fo))) :: ppW q h a0 a1 a2 a3 a4 a5 g b0 b1 cI fi la B G pr) (own := RL) (nL := 9) (q0 := 12) (ci := 3) [12, 13, 14, 15, 16, 17, 18, 19, 20, 21] [0, 1, 2, 3, 4, 5, 6, 7, 8, 9, 10, 11] [.int x1, .int x2, .int x3] (mX3_ceilingFor l D cI mo z1 z2 z3 z4 z5 z6 z7 z8 z9 (nI N) hs cs mf ml M td lf laid piled prs thr x1 x2 x3 N rfl hN1 hN2) ⟨hx, hb, hml, hown, hts⟩ (cwV 3 hts gL_law_X3_ceilingFor rfl rfl rfl (by decide +kernel) ⟨Nat.le_of_ble_eq_true rfl, Nat.le_of_ble_eq_true rfl⟩) pq_bl0 (fun _ _ _ => trivial) (hK.sub [0] rfl) hP hD hS hA rfl (by decide) rfl (by decide) (by decide) rfl rfl rfl rfl hl.1 rfl (Nat.le_of_ble_eq_true rfl) dL_law_800 ⟨by show n + 5 + 0 ≤ 601024; omega, by show sl + 30 + 0 ≤ 7293034; omega⟩ (fun v w1 H locs hq hP hD hS hz => ?_)
    rcases hq with ⟨hm, rfl, rfl⟩ | ⟨kf2, kt2, hxf2, hxt2, hft2, htN2, rfl, rfl, hm0⟩
    · skip
      have hP : va_P D vwCl (lwW o fo q h a0 a1 a2 a3 a4 a5 g b0 b1 mo z1 z2 z3 z4 z5 z6 z7 z8 z9 cI cL fi la B G pr (nI N) hs cs mf ml M td lf laid piled prs (mFor (nI N) hs x1 x2 x3)) H := hP
      have hD : va_D (fun q : Nat => s.heap.size ≤ q) (lwW o fo q h a0 a1 a2 a3 a4 a5 g b0 b1 mo z1 z2 z3 z4 z5 z6 z7 z8 z9 cI cL fi la B G pr (nI N) hs cs mf ml M td lf laid piled prs (mFor (nI N) hs x1 x2 x3)) := hD
      refine W.eq (g2 := F0 m 803 ls [.int 0]) rfl ?_
      refine lv_istore (lv' := [(6, .int 0), (5, .int (cFor G.2.2.1 G.1 x1 x2 x3)), (4, .int (nI i)), (3, .ref o), (2, .ref mo), (1, .ref q), (0, .ref b)]) hx hb dL_law_803 hl (by decide) rfl (fun ls hl => ?_)
      refine lv_aload_n hx hb dL_law_805 rfl (lv_at hl 4 rfl) ?_
      refine pq_callV (rest := []) (wr := (o, .inl (cL, 1, .inr (.inl fo))) :: ppW q h a0 a1 a2 a3 a4 a5 g b0 b1 cI fi la B G pr) (own := RL) (nL := 9) (q0 := 12) (ci := 3) [12, 13, 14, 15, 16, 17, 18, 19, 20, 21] [0, 1, 2, 3, 4, 5, 6, 7, 8, 9, 10, 11] [] (mX3_thrown l D cI mo z1 z2 z3 z4 z5 z6 z7 z8 z9 (nI N) hs cs mf ml M td lf laid piled prs (mFor (nI N) hs x1 x2 x3)) ⟨hx, hb, hml, hown, hts⟩ (cwV 0 hts gL_law_X3_thrown rfl rfl rfl (by decide +kernel) ⟨Nat.le_of_ble_eq_true rfl, Nat.le_of_ble_eq_true rfl⟩) pq_bl0 (fun _ _ _ => trivial) (hK.sub [0] rfl) hP hD hS hA rfl (by decide) rfl (by decide) (by decide) rfl rfl rfl rfl hl.1 rfl (Nat.le_of_ble_eq_true rfl) dL_law_806 ⟨by show n + 5 + 0 + 0 ≤ 601024; omega, by show sl + 30 + 0 + 0 ≤ 7293034; omega⟩ (fun v w1 H locs hq hP hD hS hz => ?_)
      obtain ⟨rfl, rfl⟩ := hq
      have hP : va_P D vwCl (lwW o fo q h a0 a1 a2 a3 a4 a5 g b0 b1 mo z1 z2 z3 z4 z5 z6 z7 z8 z9 cI cL fi la B G pr (nI N) hs cs mf ml M td lf laid piled prs (mFor (nI N) hs x1 x2 x3)) H := hP
      have hD : va_D (fun q : Nat => s.heap.size ≤ q) (lwW o fo q h a0 a1 a2 a3 a4 a5 g b0 b1 mo z1 z2 z3 z4 z5 z6 z7 z8 z9 cI cL fi la B G pr (nI N) hs cs mf ml M td lf laid piled prs (mFor (nI N) hs x1 x2 x3)) := hD
      refine W.eq (g2 := F0 m 809 ls [.int (mFor (nI N) hs x1 x2 x3)]) rfl ?_
      refine lv_iload hx hb dL_law_809 (lv_at hl 1 rfl) ?_
      refine lv_icmp_eq (tgt := 816) hx hb dL_law_811 (by decide) (fun _ => ?_) (fun c9 => absurd ((iv_cfor I x1 x2 x3).symm) c9)
      refine lv_iload hx hb dL_law_816 (lv_at hl 1 rfl) ?_
      refine lv_if_ne (tgt := 833) hx hb dL_law_818 (by decide) (fun _ => ?_) (fun c9 => absurd c9 hne)
      refine lv_goto (tgt := 1291) hx hb dL_law_833 (by decide) ?_
      refine W.widen (k := n + 6) (n := sl + 36) (by omega) (by omega) ?_
      exact K _ H locs ls ⟨_, _, _, _, _, _, _, _, _, _, _, _, _, _, _, _, _, _, _, rfl, rfl, I, hg, hpr⟩ hP hD hS (lv_sub hl [2, 3, 4, 5, 6] rfl)
    · exact (hne ((iv_cfor I x1 x2 x3).trans hm0)).elim

set_option maxHeartbeats 4000000 in
set_option maxRecDepth 100000 in
theorem law_ceilingOver {p : Program} {l : Launch} {ev : Env} {s : State} {m : MethodId} {b L : Nat} {xs : Nat → Int32} {below : List Frame} {meth : Method} {cd : Code} {Q : State → Prop} {o q h a0 a1 a2 a3 a4 a5 g b0 b1 mo z1 z2 z3 z4 z5 z6 z7 z8 z9 : Nat} {D : va_G} {cI cL : ClassId} {i n sl : Nat} (C : LC p l s m meth cd b L xs D cI cL) (hi : i + 4 ≤ L) (hn : n + 6 ≤ 600000) (hsl : sl + 36 ≤ 7000000) (K : LK p l ev s m b below meth cd Q o q h a0 a1 a2 a3 a4 a5 g b0 b1 mo z1 z2 z3 z4 z5 z6 z7 z8 z9 D cI cL i 1291 (n + 6) (sl + 36)) : LK p l ev s m b below meth cd Q o q h a0 a1 a2 a3 a4 a5 g b0 b1 mo z1 z2 z3 z4 z5 z6 z7 z8 z9 D cI cL i 836 n sl := by
  obtain ⟨hx, hb, hml, hown, hts, hX, hbl, hK, hE, hfl, hL⟩ := C
  have hA : ∀ q : Nat, s.heap.size ≤ q → (fun q : Nat => s.heap.size ≤ q) q := fun _ h => h
  have hbA : ¬ (fun q : Nat => s.heap.size ≤ q) b := Nat.not_le.mpr hbl
  rintro w H locs ls ⟨fo, fi, la, B, G, pr, N, hs, cs, mf, ml, M, td, lf, laid, piled, prs, thr, col, rfl, rfl, I, hg, hpr⟩ hP hD hS hl
  have hN1 := I.1
  have hN2 := I.2.1
  have hNN : G.2.2.1 = nI N := I.2.2.2.2.2.2.2.2
  have hT := I.2.2.2.1
  have hN5 : N < 65 := by omega
  obtain ⟨x1, hx1⟩ : ∃ z, z = xs (nI (i + 1)).toNatClampNeg := ⟨_, rfl⟩
  refine lv_aload_n hx hb dL_law_836 rfl (lv_at hl 3 rfl) ?_
  refine lv_aload_n hx hb dL_law_837 rfl (lv_at hl 4 rfl) ?_
  refine lv_iload hx hb dL_law_838 (lv_at hl 0 rfl) ?_
  refine lv_iconst (v := 1) hx hb dL_law_840 (by decide) ?_
  refine lv_iadd hx hb dL_law_841 ?_
  refine pq_top (nI (i + 1)) (nI_1 _) ?_
  refine va_sld hx hb hX hbl hbA hS (vp_in_nI (by omega) (by omega)) dL_law_842 ?_
  rw [← hx1]
  refine lv_aload_n hx hb dL_law_843 rfl (lv_at hl 1 rfl) ?_
  refine pq_callSW (wr := mdW mo z1 z2 z3 z4 z5 z6 z7 z8 z9 cI (nI N) hs cs mf ml M td lf laid piled prs thr) (own := RL) (nL := 9) [0, 1, 2, 3, 4, 5, 6, 7, 8, 9, 10, 11] [12, 13, 14, 15, 16, 17, 18, 19, 20, 21] [.ref q, .int x1, .ref o] (mL_ceilingOver l D cI cL o fo q h a0 a1 a2 a3 a4 a5 g b0 b1 fi la B G pr N hfl hNN hN1 hN2 x1) ⟨hx, hb, hml, hown, hts⟩ (vx_cwSW 3 hts gL_law_L_ceilingOver rfl rfl rfl (by decide +kernel) ⟨Nat.le_of_ble_eq_true rfl, Nat.le_of_ble_eq_true rfl⟩) pq_blL (hE.call hD hS hA [0, 1, 2, 3, 4, 5, 6, 7, 8, 9, 10, 11] rfl) hK hP hD hS hA rfl (by decide) rfl (by decide) (by decide) rfl hl.1 rfl (Nat.le_of_ble_eq_true rfl) dL_law_844 ⟨by show n + 2 ≤ 601024; omega, by show sl + 12 ≤ 7293034; omega⟩ (fun v w1 H locs hq hP hD hS hz => ?_)
  rcases hq with ⟨r, wc, hpost, rfl, rfl⟩ | ⟨hne, rfl, rfl⟩
  · obtain ⟨k, hxk, hk, hv, rfl, hc0⟩ := hpost
    have hr := vi_eq hv
    have hP : va_P D vwCl (lwW o (vp_updL fo 0 r.toInt64) q h a0 a1 a2 a3 a4 a5 g b0 b1 mo z1 z2 z3 z4 z5 z6 z7 z8 z9 cI cL fi la B G pr (nI N) hs cs mf ml M td lf laid piled prs thr) H := hP.sub [10, 11, 12, 13, 14, 15, 16, 17, 18, 19, 20, 21, 0, 1, 2, 3, 4, 5, 6, 7, 8, 9] rfl
    have hD : va_D (fun q : Nat => s.heap.size ≤ q) (lwW o (vp_updL fo 0 r.toInt64) q h a0 a1 a2 a3 a4 a5 g b0 b1 mo z1 z2 z3 z4 z5 z6 z7 z8 z9 cI cL fi la B G pr (nI N) hs cs mf ml M td lf laid piled prs thr) := hD.sub [10, 11, 12, 13, 14, 15, 16, 17, 18, 19, 20, 21, 0, 1, 2, 3, 4, 5, 6, 7, 8, 9] (by decide) rfl
    refine lv_istore (lv' := [(5, .int 0), (4, .int (nI i)), (3, .ref o), (2, .ref mo), (1, .ref q), (0, .ref b)]) hx hb dL_law_847 hl (by decide) rfl (fun ls hl => ?_)
    refine lv_aload_n hx hb dL_law_849 rfl (lv_at hl 3 rfl) ?_
    refine lv_aload_n hx hb dL_law_850 rfl (lv_at hl 5 rfl) ?_
    refine lv_iload hx hb dL_law_851 (lv_at hl 1 rfl) ?_
    refine lv_iconst (v := 1) hx hb dL_law_853 (by decide) ?_
    refine lv_iadd hx hb dL_law_854 ?_
    refine pq_top (nI (i + 1)) (nI_1 _) ?_
    refine va_sld hx hb hX hbl hbA hS (vp_in_nI (by omega) (by omega)) dL_law_855 ?_
    rw [← hx1]
    refine pq_callV (rest := []) (wr := (o, .inl (cL, 1, .inr (.inl (vp_updL fo 0 r.toInt64)))) :: ppW q h a0 a1 a2 a3 a4 a5 g b0 b1 cI fi la B G pr) (own := RL) (nL := 9) (q0 := 12) (ci := 3) [12, 13, 14, 15, 16, 17, 18, 19, 20, 21] [0, 1, 2, 3, 4, 5, 6, 7, 8, 9, 10, 11] [.int x1] (mX3_ceilingOver l D cI mo z1 z2 z3 z4 z5 z6 z7 z8 z9 (nI N) hs cs mf ml M td lf laid piled prs thr x1 N rfl hN1 hN2) ⟨hx, hb, hml, hown, hts⟩ (cwV 1 hts gL_law_X3_ceilingOver rfl rfl rfl (by decide +kernel) ⟨Nat.le_of_ble_eq_true rfl, Nat.le_of_ble_eq_true rfl⟩) pq_bl0 (fun _ _ _ => trivial) (hK.sub [0] rfl) hP hD hS hA rfl (by decide) rfl (by decide) (by decide) rfl rfl rfl rfl hl.1 rfl (Nat.le_of_ble_eq_true rfl) dL_law_856 ⟨by show n + 2 + 0 ≤ 601024; omega, by show sl + 12 + 0 ≤ 7293034; omega⟩ (fun v w1 H locs hq hP hD hS hz => ?_)
    rcases hq with ⟨hm, rfl, rfl⟩ | ⟨k2, hxk2, hk2, rfl, rfl, hm0⟩
    · exact (hm ((iv_cover I x1).symm.trans hc0)).elim
    · skip
      have hP : va_P D vwCl (lwW o (vp_updL fo 0 r.toInt64) q h a0 a1 a2 a3 a4 a5 g b0 b1 mo z1 z2 z3 z4 z5 z6 z7 z8 z9 cI cL fi la B G pr (nI N) hs cs mf ml M td lf laid piled prs 0) H := hP
      have hD : va_D (fun q : Nat => s.heap.size ≤ q) (lwW o (vp_updL fo 0 r.toInt64) q h a0 a1 a2 a3 a4 a5 g b0 b1 mo z1 z2 z3 z4 z5 z6 z7 z8 z9 cI cL fi la B G pr (nI N) hs cs mf ml M td lf laid piled prs 0) := hD
      refine W.eq (g2 := F0 m 859 ls [.int (cs k2)]) rfl ?_
      refine lv_istore (lv' := [(6, .int (cs k2)), (5, .int 0), (4, .int (nI i)), (3, .ref o), (2, .ref mo), (1, .ref q), (0, .ref b)]) hx hb dL_law_859 hl (by decide) rfl (fun ls hl => ?_)
      refine lv_aload_n hx hb dL_law_861 rfl (lv_at hl 4 rfl) ?_
      refine pq_callV (rest := []) (wr := (o, .inl (cL, 1, .inr (.inl (vp_updL fo 0 r.toInt64)))) :: ppW q h a0 a1 a2 a3 a4 a5 g b0 b1 cI fi la B G pr) (own := RL) (nL := 9) (q0 := 12) (ci := 3) [12, 13, 14, 15, 16, 17, 18, 19, 20, 21] [0, 1, 2, 3, 4, 5, 6, 7, 8, 9, 10, 11] [] (mX3_thrown l D cI mo z1 z2 z3 z4 z5 z6 z7 z8 z9 (nI N) hs cs mf ml M td lf laid piled prs 0) ⟨hx, hb, hml, hown, hts⟩ (cwV 0 hts gL_law_X3_thrown rfl rfl rfl (by decide +kernel) ⟨Nat.le_of_ble_eq_true rfl, Nat.le_of_ble_eq_true rfl⟩) pq_bl0 (fun _ _ _ => trivial) (hK.sub [0] rfl) hP hD hS hA rfl (by decide) rfl (by decide) (by decide) rfl rfl rfl rfl hl.1 rfl (Nat.le_of_ble_eq_true rfl) dL_law_862 ⟨by show n + 2 + 0 + 0 ≤ 601024; omega, by show sl + 12 + 0 + 0 ≤ 7293034; omega⟩ (fun v w1 H locs hq hP hD hS hz => ?_)
      obtain ⟨rfl, rfl⟩ := hq
      have hP : va_P D vwCl (lwW o (vp_updL fo 0 r.toInt64) q h a0 a1 a2 a3 a4 a5 g b0 b1 mo z1 z2 z3 z4 z5 z6 z7 z8 z9 cI cL fi la B G pr (nI N) hs cs mf ml M td lf laid piled prs 0) H := hP
      have hD : va_D (fun q : Nat => s.heap.size ≤ q) (lwW o (vp_updL fo 0 r.toInt64) q h a0 a1 a2 a3 a4 a5 g b0 b1 mo z1 z2 z3 z4 z5 z6 z7 z8 z9 cI cL fi la B G pr (nI N) hs cs mf ml M td lf laid piled prs 0) := hD
      refine W.eq (g2 := F0 m 865 ls [.int 0]) rfl ?_
      refine lv_iload hx hb dL_law_865 (lv_at hl 1 rfl) ?_
      refine lv_icmp_eq (tgt := 872) hx hb dL_law_867 (by decide) (fun _ => ?_) (fun c9 => absurd rfl c9)
      refine lv_iload hx hb dL_law_872 (lv_at hl 1 rfl) ?_
      refine lv_if_ne (tgt := 889) hx hb dL_law_874 (by decide) (fun c9 => absurd rfl c9) (fun _ => ?_)
      refine lv_aload_n hx hb dL_law_877 rfl (lv_at hl 3 rfl) ?_
      refine lv_iconst (v := 0) hx hb dL_law_878 (by decide) ?_
      refine pq_lald hx hb hK hP 0 1 rfl rfl dL_law_879 ?_
      have hkk : k = k2 := nI_inj (by omega) (by omega) (hxk.symm.trans hxk2)
      subst hkk
      have hans := hr.trans (st_col I hk).2
      have I2 := I
      have hg2 := hg
      have hpr2 := hpr
      rw [updL_0, hans]
      refine lv_iload hx hb dL_law_880 (lv_at hl 0 rfl) ?_
      refine lv_i2l hx hb dL_law_882 rfl ?_
      refine W.lcmp hx hb dL_law_883 ?_
      rw [lg_cmp_s]
      refine lv_if_eq (tgt := 889) hx hb dL_law_884 (by decide) (fun _ => ?_) (fun c9 => absurd rfl c9)
      refine lv_goto (tgt := 1291) hx hb dL_law_889 (by decide) ?_
      refine W.widen (k := n + 6) (n := sl + 36) (by omega) (by omega) ?_
      exact K _ H locs ls ⟨_, _, _, _, _, _, _, _, _, _, _, _, _, _, _, _, _, _, _, rfl, rfl, I2, hg2, hpr2⟩ hP hD hS (lv_sub hl [2, 3, 4, 5, 6] rfl)
  · skip
    have hP : va_P D vwCl (lwW o fo q h a0 a1 a2 a3 a4 a5 g b0 b1 mo z1 z2 z3 z4 z5 z6 z7 z8 z9 cI cL fi la B G pr (nI N) hs cs mf ml M td lf laid piled prs thr) H := hP.sub [10, 11, 12, 13, 14, 15, 16, 17, 18, 19, 20, 21, 0, 1, 2, 3, 4, 5, 6, 7, 8, 9] rfl
    have hD : va_D (fun q : Nat => s.heap.size ≤ q) (lwW o fo q h a0 a1 a2 a3 a4 a5 g b0 b1 mo z1 z2 z3 z4 z5 z6 z7 z8 z9 cI cL fi la B G pr (nI N) hs cs mf ml M td lf laid piled prs thr) := hD.sub [10, 11, 12, 13, 14, 15, 16, 17, 18, 19, 20, 21, 0, 1, 2, 3, 4, 5, 6, 7, 8, 9] (by decide) rfl
    refine lv_istore (lv' := [(5, .int (cOver G.2.2.1 G.2.1 x1)), (4, .int (nI i)), (3, .ref o), (2, .ref mo), (1, .ref q), (0, .ref b)]) hx hb dL_law_847 hl (by decide) rfl (fun ls hl => ?_)
    refine lv_aload_n hx hb dL_law_849 rfl (lv_at hl 3 rfl) ?_
    refine lv_aload_n hx hb dL_law_850 rfl (lv_at hl 5 rfl) ?_
    refine lv_iload hx hb dL_law_851 (lv_at hl 1 rfl) ?_
    refine lv_iconst (v := 1) hx hb dL_law_853 (by decide) ?_
    refine lv_iadd hx hb dL_law_854 ?_
    refine pq_top (nI (i + 1)) (nI_1 _) ?_
    refine va_sld hx hb hX hbl hbA hS (vp_in_nI (by omega) (by omega)) dL_law_855 ?_
    rw [← hx1]
    refine pq_callV (rest := []) (wr := (o, .inl (cL, 1, .inr (.inl fo))) :: ppW q h a0 a1 a2 a3 a4 a5 g b0 b1 cI fi la B G pr) (own := RL) (nL := 9) (q0 := 12) (ci := 3) [12, 13, 14, 15, 16, 17, 18, 19, 20, 21] [0, 1, 2, 3, 4, 5, 6, 7, 8, 9, 10, 11] [.int x1] (mX3_ceilingOver l D cI mo z1 z2 z3 z4 z5 z6 z7 z8 z9 (nI N) hs cs mf ml M td lf laid piled prs thr x1 N rfl hN1 hN2) ⟨hx, hb, hml, hown, hts⟩ (cwV 1 hts gL_law_X3_ceilingOver rfl rfl rfl (by decide +kernel) ⟨Nat.le_of_ble_eq_true rfl, Nat.le_of_ble_eq_true rfl⟩) pq_bl0 (fun _ _ _ => trivial) (hK.sub [0] rfl) hP hD hS hA rfl (by decide) rfl (by decide) (by decide) rfl rfl rfl rfl hl.1 rfl (Nat.le_of_ble_eq_true rfl) dL_law_856 ⟨by show n + 2 + 0 ≤ 601024; omega, by show sl + 12 + 0 ≤ 7293034; omega⟩ (fun v w1 H locs hq hP hD hS hz => ?_)
    rcases hq with ⟨hm, rfl, rfl⟩ | ⟨k2, hxk2, hk2, rfl, rfl, hm0⟩
    · skip
      have hP : va_P D vwCl (lwW o fo q h a0 a1 a2 a3 a4 a5 g b0 b1 mo z1 z2 z3 z4 z5 z6 z7 z8 z9 cI cL fi la B G pr (nI N) hs cs mf ml M td lf laid piled prs (cOver (nI N) cs x1)) H := hP
      have hD : va_D (fun q : Nat => s.heap.size ≤ q) (lwW o fo q h a0 a1 a2 a3 a4 a5 g b0 b1 mo z1 z2 z3 z4 z5 z6 z7 z8 z9 cI cL fi la B G pr (nI N) hs cs mf ml M td lf laid piled prs (cOver (nI N) cs x1)) := hD
      refine W.eq (g2 := F0 m 859 ls [.int 0]) rfl ?_
      refine lv_istore (lv' := [(6, .int 0), (5, .int (cOver G.2.2.1 G.2.1 x1)), (4, .int (nI i)), (3, .ref o), (2, .ref mo), (1, .ref q), (0, .ref b)]) hx hb dL_law_859 hl (by decide) rfl (fun ls hl => ?_)
      refine lv_aload_n hx hb dL_law_861 rfl (lv_at hl 4 rfl) ?_
      refine pq_callV (rest := []) (wr := (o, .inl (cL, 1, .inr (.inl fo))) :: ppW q h a0 a1 a2 a3 a4 a5 g b0 b1 cI fi la B G pr) (own := RL) (nL := 9) (q0 := 12) (ci := 3) [12, 13, 14, 15, 16, 17, 18, 19, 20, 21] [0, 1, 2, 3, 4, 5, 6, 7, 8, 9, 10, 11] [] (mX3_thrown l D cI mo z1 z2 z3 z4 z5 z6 z7 z8 z9 (nI N) hs cs mf ml M td lf laid piled prs (cOver (nI N) cs x1)) ⟨hx, hb, hml, hown, hts⟩ (cwV 0 hts gL_law_X3_thrown rfl rfl rfl (by decide +kernel) ⟨Nat.le_of_ble_eq_true rfl, Nat.le_of_ble_eq_true rfl⟩) pq_bl0 (fun _ _ _ => trivial) (hK.sub [0] rfl) hP hD hS hA rfl (by decide) rfl (by decide) (by decide) rfl rfl rfl rfl hl.1 rfl (Nat.le_of_ble_eq_true rfl) dL_law_862 ⟨by show n + 2 + 0 + 0 ≤ 601024; omega, by show sl + 12 + 0 + 0 ≤ 7293034; omega⟩ (fun v w1 H locs hq hP hD hS hz => ?_)
      obtain ⟨rfl, rfl⟩ := hq
      have hP : va_P D vwCl (lwW o fo q h a0 a1 a2 a3 a4 a5 g b0 b1 mo z1 z2 z3 z4 z5 z6 z7 z8 z9 cI cL fi la B G pr (nI N) hs cs mf ml M td lf laid piled prs (cOver (nI N) cs x1)) H := hP
      have hD : va_D (fun q : Nat => s.heap.size ≤ q) (lwW o fo q h a0 a1 a2 a3 a4 a5 g b0 b1 mo z1 z2 z3 z4 z5 z6 z7 z8 z9 cI cL fi la B G pr (nI N) hs cs mf ml M td lf laid piled prs (cOver (nI N) cs x1)) := hD
      refine W.eq (g2 := F0 m 865 ls [.int (cOver (nI N) cs x1)]) rfl ?_
      refine lv_iload hx hb dL_law_865 (lv_at hl 1 rfl) ?_
      refine lv_icmp_eq (tgt := 872) hx hb dL_law_867 (by decide) (fun _ => ?_) (fun c9 => absurd ((iv_cover I x1).symm) c9)
      refine lv_iload hx hb dL_law_872 (lv_at hl 1 rfl) ?_
      refine lv_if_ne (tgt := 889) hx hb dL_law_874 (by decide) (fun _ => ?_) (fun c9 => absurd c9 hne)
      refine lv_goto (tgt := 1291) hx hb dL_law_889 (by decide) ?_
      refine W.widen (k := n + 6) (n := sl + 36) (by omega) (by omega) ?_
      exact K _ H locs ls ⟨_, _, _, _, _, _, _, _, _, _, _, _, _, _, _, _, _, _, _, rfl, rfl, I, hg, hpr⟩ hP hD hS (lv_sub hl [2, 3, 4, 5, 6] rfl)
    · exact (hne ((iv_cover I x1).trans hm0)).elim

set_option maxHeartbeats 4000000 in
set_option maxRecDepth 100000 in
theorem law_spanOf {p : Program} {l : Launch} {ev : Env} {s : State} {m : MethodId} {b L : Nat} {xs : Nat → Int32} {below : List Frame} {meth : Method} {cd : Code} {Q : State → Prop} {o q h a0 a1 a2 a3 a4 a5 g b0 b1 mo z1 z2 z3 z4 z5 z6 z7 z8 z9 : Nat} {D : va_G} {cI cL : ClassId} {i n sl : Nat} (C : LC p l s m meth cd b L xs D cI cL) (hi : i + 4 ≤ L) (hn : n + 6 ≤ 600000) (hsl : sl + 36 ≤ 7000000) (K : LK p l ev s m b below meth cd Q o q h a0 a1 a2 a3 a4 a5 g b0 b1 mo z1 z2 z3 z4 z5 z6 z7 z8 z9 D cI cL i 1291 (n + 6) (sl + 36)) : LK p l ev s m b below meth cd Q o q h a0 a1 a2 a3 a4 a5 g b0 b1 mo z1 z2 z3 z4 z5 z6 z7 z8 z9 D cI cL i 905 n sl := by
  obtain ⟨hx, hb, hml, hown, hts, hX, hbl, hK, hE, hfl, hL⟩ := C
  have hA : ∀ q : Nat, s.heap.size ≤ q → (fun q : Nat => s.heap.size ≤ q) q := fun _ h => h
  have hbA : ¬ (fun q : Nat => s.heap.size ≤ q) b := Nat.not_le.mpr hbl
  rintro w H locs ls ⟨fo, fi, la, B, G, pr, N, hs, cs, mf, ml, M, td, lf, laid, piled, prs, thr, col, rfl, rfl, I, hg, hpr⟩ hP hD hS hl
  have hN1 := I.1
  have hN2 := I.2.1
  have hNN : G.2.2.1 = nI N := I.2.2.2.2.2.2.2.2
  have hT := I.2.2.2.1
  have hN5 : N < 65 := by omega
  obtain ⟨x1, hx1⟩ : ∃ z, z = xs (nI (i + 1)).toNatClampNeg := ⟨_, rfl⟩
  refine lv_aload_n hx hb dL_law_905 rfl (lv_at hl 3 rfl) ?_
  refine lv_aload_n hx hb dL_law_906 rfl (lv_at hl 4 rfl) ?_
  refine lv_iload hx hb dL_law_907 (lv_at hl 0 rfl) ?_
  refine lv_iconst (v := 1) hx hb dL_law_909 (by decide) ?_
  refine lv_iadd hx hb dL_law_910 ?_
  refine pq_top (nI (i + 1)) (nI_1 _) ?_
  refine va_sld hx hb hX hbl hbA hS (vp_in_nI (by omega) (by omega)) dL_law_911 ?_
  rw [← hx1]
  refine lv_aload_n hx hb dL_law_912 rfl (lv_at hl 1 rfl) ?_
  refine pq_callSW (wr := mdW mo z1 z2 z3 z4 z5 z6 z7 z8 z9 cI (nI N) hs cs mf ml M td lf laid piled prs thr) (own := RL) (nL := 9) [0, 1, 2, 3, 4, 5, 6, 7, 8, 9, 10, 11] [12, 13, 14, 15, 16, 17, 18, 19, 20, 21] [.ref q, .int x1, .ref o] (mL_spanOf l D cI cL o fo q h a0 a1 a2 a3 a4 a5 g b0 b1 fi la B G pr N hfl hNN hN1 hN2 x1) ⟨hx, hb, hml, hown, hts⟩ (vx_cwSW 3 hts gL_law_L_spanOf rfl rfl rfl (by decide +kernel) ⟨Nat.le_of_ble_eq_true rfl, Nat.le_of_ble_eq_true rfl⟩) pq_blL (hE.call hD hS hA [0, 1, 2, 3, 4, 5, 6, 7, 8, 9, 10, 11] rfl) hK hP hD hS hA rfl (by decide) rfl (by decide) (by decide) rfl hl.1 rfl (Nat.le_of_ble_eq_true rfl) dL_law_913 ⟨by show n + 1 ≤ 601024; omega, by show sl + 6 ≤ 7293034; omega⟩ (fun v w1 H locs hq hP hD hS hz => ?_)
  rcases hq with ⟨r, wc, hpost, rfl, rfl⟩ | ⟨hne, rfl, rfl⟩
  · obtain ⟨k, hxk, hk, hk9, hv, rfl, hc0⟩ := hpost
    have hr := vi_eq hv
    have hP : va_P D vwCl (lwW o (vp_updL fo 0 r.toInt64) q h a0 a1 a2 a3 a4 a5 g b0 b1 mo z1 z2 z3 z4 z5 z6 z7 z8 z9 cI cL fi la B G pr (nI N) hs cs mf ml M td lf laid piled prs thr) H := hP.sub [10, 11, 12, 13, 14, 15, 16, 17, 18, 19, 20, 21, 0, 1, 2, 3, 4, 5, 6, 7, 8, 9] rfl
    have hD : va_D (fun q : Nat => s.heap.size ≤ q) (lwW o (vp_updL fo 0 r.toInt64) q h a0 a1 a2 a3 a4 a5 g b0 b1 mo z1 z2 z3 z4 z5 z6 z7 z8 z9 cI cL fi la B G pr (nI N) hs cs mf ml M td lf laid piled prs thr) := hD.sub [10, 11, 12, 13, 14, 15, 16, 17, 18, 19, 20, 21, 0, 1, 2, 3, 4, 5, 6, 7, 8, 9] (by decide) rfl
    refine lv_istore (lv' := [(5, .int 0), (4, .int (nI i)), (3, .ref o), (2, .ref mo), (1, .ref q), (0, .ref b)]) hx hb dL_law_916 hl (by decide) rfl (fun ls hl => ?_)
    refine lv_aload_n hx hb dL_law_918 rfl (lv_at hl 3 rfl) ?_
    refine lv_aload_n hx hb dL_law_919 rfl (lv_at hl 5 rfl) ?_
    refine lv_iload hx hb dL_law_920 (lv_at hl 1 rfl) ?_
    refine lv_iconst (v := 1) hx hb dL_law_922 (by decide) ?_
    refine lv_iadd hx hb dL_law_923 ?_
    refine pq_top (nI (i + 1)) (nI_1 _) ?_
    refine va_sld hx hb hX hbl hbA hS (vp_in_nI (by omega) (by omega)) dL_law_924 ?_
    rw [← hx1]
    refine pq_callV (rest := []) (wr := (o, .inl (cL, 1, .inr (.inl (vp_updL fo 0 r.toInt64)))) :: ppW q h a0 a1 a2 a3 a4 a5 g b0 b1 cI fi la B G pr) (own := RL) (nL := 9) (q0 := 12) (ci := 3) [12, 13, 14, 15, 16, 17, 18, 19, 20, 21] [0, 1, 2, 3, 4, 5, 6, 7, 8, 9, 10, 11] [.int x1] (mX3_spanOf l D cI mo z1 z2 z3 z4 z5 z6 z7 z8 z9 (nI N) hs cs mf ml M td lf laid piled prs thr x1) ⟨hx, hb, hml, hown, hts⟩ (cwV 1 hts gL_law_X3_spanOf rfl rfl rfl (by decide +kernel) ⟨Nat.le_of_ble_eq_true rfl, Nat.le_of_ble_eq_true rfl⟩) pq_bl0 (fun _ _ _ => trivial) (hK.sub [0] rfl) hP hD hS hA rfl (by decide) rfl (by decide) (by decide) rfl rfl rfl rfl hl.1 rfl (Nat.le_of_ble_eq_true rfl) dL_law_925 ⟨by show n + 1 + 0 ≤ 601024; omega, by show sl + 6 + 0 ≤ 7293034; omega⟩ (fun v w1 H locs hq hP hD hS hz => ?_)
    rcases hq with ⟨hm, rfl, rfl⟩ | ⟨k2, hxk2, hk2, hk3, hk4, rfl, rfl⟩
    · exact (hm ((iv_ent I x1).elim (fun z => z.2) (fun z => absurd (z.1.symm.trans hc0) c_ne1))).elim
    · skip
      have hP : va_P D vwCl (lwW o (vp_updL fo 0 r.toInt64) q h a0 a1 a2 a3 a4 a5 g b0 b1 mo z1 z2 z3 z4 z5 z6 z7 z8 z9 cI cL fi la B G pr (nI N) hs cs mf ml M td lf laid piled prs 0) H := hP
      have hD : va_D (fun q : Nat => s.heap.size ≤ q) (lwW o (vp_updL fo 0 r.toInt64) q h a0 a1 a2 a3 a4 a5 g b0 b1 mo z1 z2 z3 z4 z5 z6 z7 z8 z9 cI cL fi la B G pr (nI N) hs cs mf ml M td lf laid piled prs 0) := hD
      refine W.eq (g2 := F0 m 928 ls [.int (100 * mf k2 + ml k2)]) rfl ?_
      refine lv_istore (lv' := [(6, .int (100 * mf k2 + ml k2)), (5, .int 0), (4, .int (nI i)), (3, .ref o), (2, .ref mo), (1, .ref q), (0, .ref b)]) hx hb dL_law_928 hl (by decide) rfl (fun ls hl => ?_)
      refine lv_aload_n hx hb dL_law_930 rfl (lv_at hl 4 rfl) ?_
      refine pq_callV (rest := []) (wr := (o, .inl (cL, 1, .inr (.inl (vp_updL fo 0 r.toInt64)))) :: ppW q h a0 a1 a2 a3 a4 a5 g b0 b1 cI fi la B G pr) (own := RL) (nL := 9) (q0 := 12) (ci := 3) [12, 13, 14, 15, 16, 17, 18, 19, 20, 21] [0, 1, 2, 3, 4, 5, 6, 7, 8, 9, 10, 11] [] (mX3_thrown l D cI mo z1 z2 z3 z4 z5 z6 z7 z8 z9 (nI N) hs cs mf ml M td lf laid piled prs 0) ⟨hx, hb, hml, hown, hts⟩ (cwV 0 hts gL_law_X3_thrown rfl rfl rfl (by decide +kernel) ⟨Nat.le_of_ble_eq_true rfl, Nat.le_of_ble_eq_true rfl⟩) pq_bl0 (fun _ _ _ => trivial) (hK.sub [0] rfl) hP hD hS hA rfl (by decide) rfl (by decide) (by decide) rfl rfl rfl rfl hl.1 rfl (Nat.le_of_ble_eq_true rfl) dL_law_931 ⟨by show n + 1 + 0 + 0 ≤ 601024; omega, by show sl + 6 + 0 + 0 ≤ 7293034; omega⟩ (fun v w1 H locs hq hP hD hS hz => ?_)
      obtain ⟨rfl, rfl⟩ := hq
      have hP : va_P D vwCl (lwW o (vp_updL fo 0 r.toInt64) q h a0 a1 a2 a3 a4 a5 g b0 b1 mo z1 z2 z3 z4 z5 z6 z7 z8 z9 cI cL fi la B G pr (nI N) hs cs mf ml M td lf laid piled prs 0) H := hP
      have hD : va_D (fun q : Nat => s.heap.size ≤ q) (lwW o (vp_updL fo 0 r.toInt64) q h a0 a1 a2 a3 a4 a5 g b0 b1 mo z1 z2 z3 z4 z5 z6 z7 z8 z9 cI cL fi la B G pr (nI N) hs cs mf ml M td lf laid piled prs 0) := hD
      refine W.eq (g2 := F0 m 934 ls [.int 0]) rfl ?_
      refine lv_iload hx hb dL_law_934 (lv_at hl 1 rfl) ?_
      refine lv_icmp_eq (tgt := 941) hx hb dL_law_936 (by decide) (fun _ => ?_) (fun c9 => absurd rfl c9)
      refine lv_iload hx hb dL_law_941 (lv_at hl 1 rfl) ?_
      refine lv_if_ne (tgt := 958) hx hb dL_law_943 (by decide) (fun c9 => absurd rfl c9) (fun _ => ?_)
      refine lv_aload_n hx hb dL_law_946 rfl (lv_at hl 3 rfl) ?_
      refine lv_iconst (v := 0) hx hb dL_law_947 (by decide) ?_
      refine pq_lald hx hb hK hP 0 1 rfl rfl dL_law_948 ?_
      have hkk : k = k2 := nI_inj (by omega) (by omega) (hxk.symm.trans hxk2)
      subst hkk
      obtain ⟨e0, e1, e2, e3, e4, e5⟩ := iv_at I hk2 hk3 hk4
      have hans : r = 100 * mf k + ml k := by rw [e0, e1]; exact hr
      have I2 := I
      have hg2 := hg
      have hpr2 := hpr
      rw [updL_0, hans]
      refine lv_iload hx hb dL_law_949 (lv_at hl 0 rfl) ?_
      refine lv_i2l hx hb dL_law_951 rfl ?_
      refine W.lcmp hx hb dL_law_952 ?_
      rw [lg_cmp_s]
      refine lv_if_eq (tgt := 958) hx hb dL_law_953 (by decide) (fun _ => ?_) (fun c9 => absurd rfl c9)
      refine lv_goto (tgt := 1291) hx hb dL_law_958 (by decide) ?_
      refine W.widen (k := n + 6) (n := sl + 36) (by omega) (by omega) ?_
      exact K _ H locs ls ⟨_, _, _, _, _, _, _, _, _, _, _, _, _, _, _, _, _, _, _, rfl, rfl, I2, hg2, hpr2⟩ hP hD hS (lv_sub hl [2, 3, 4, 5, 6] rfl)
  · skip
    have hP : va_P D vwCl (lwW o fo q h a0 a1 a2 a3 a4 a5 g b0 b1 mo z1 z2 z3 z4 z5 z6 z7 z8 z9 cI cL fi la B G pr (nI N) hs cs mf ml M td lf laid piled prs thr) H := hP.sub [10, 11, 12, 13, 14, 15, 16, 17, 18, 19, 20, 21, 0, 1, 2, 3, 4, 5, 6, 7, 8, 9] rfl
    have hD : va_D (fun q : Nat => s.heap.size ≤ q) (lwW o fo q h a0 a1 a2 a3 a4 a5 g b0 b1 mo z1 z2 z3 z4 z5 z6 z7 z8 z9 cI cL fi la B G pr (nI N) hs cs mf ml M td lf laid piled prs thr) := hD.sub [10, 11, 12, 13, 14, 15, 16, 17, 18, 19, 20, 21, 0, 1, 2, 3, 4, 5, 6, 7, 8, 9] (by decide) rfl
    refine lv_istore (lv' := [(5, .int (cEnt la x1)), (4, .int (nI i)), (3, .ref o), (2, .ref mo), (1, .ref q), (0, .ref b)]) hx hb dL_law_916 hl (by decide) rfl (fun ls hl => ?_)
    refine lv_aload_n hx hb dL_law_918 rfl (lv_at hl 3 rfl) ?_
    refine lv_aload_n hx hb dL_law_919 rfl (lv_at hl 5 rfl) ?_
    refine lv_iload hx hb dL_law_920 (lv_at hl 1 rfl) ?_
    refine lv_iconst (v := 1) hx hb dL_law_922 (by decide) ?_
    refine lv_iadd hx hb dL_law_923 ?_
    refine pq_top (nI (i + 1)) (nI_1 _) ?_
    refine va_sld hx hb hX hbl hbA hS (vp_in_nI (by omega) (by omega)) dL_law_924 ?_
    rw [← hx1]
    refine pq_callV (rest := []) (wr := (o, .inl (cL, 1, .inr (.inl fo))) :: ppW q h a0 a1 a2 a3 a4 a5 g b0 b1 cI fi la B G pr) (own := RL) (nL := 9) (q0 := 12) (ci := 3) [12, 13, 14, 15, 16, 17, 18, 19, 20, 21] [0, 1, 2, 3, 4, 5, 6, 7, 8, 9, 10, 11] [.int x1] (mX3_spanOf l D cI mo z1 z2 z3 z4 z5 z6 z7 z8 z9 (nI N) hs cs mf ml M td lf laid piled prs thr x1) ⟨hx, hb, hml, hown, hts⟩ (cwV 1 hts gL_law_X3_spanOf rfl rfl rfl (by decide +kernel) ⟨Nat.le_of_ble_eq_true rfl, Nat.le_of_ble_eq_true rfl⟩) pq_bl0 (fun _ _ _ => trivial) (hK.sub [0] rfl) hP hD hS hA rfl (by decide) rfl (by decide) (by decide) rfl rfl rfl rfl hl.1 rfl (Nat.le_of_ble_eq_true rfl) dL_law_925 ⟨by show n + 1 + 0 ≤ 601024; omega, by show sl + 6 + 0 ≤ 7293034; omega⟩ (fun v w1 H locs hq hP hD hS hz => ?_)
    rcases hq with ⟨hm, rfl, rfl⟩ | ⟨k2, hxk2, hk2, hk3, hk4, rfl, rfl⟩
    · skip
      have hP : va_P D vwCl (lwW o fo q h a0 a1 a2 a3 a4 a5 g b0 b1 mo z1 z2 z3 z4 z5 z6 z7 z8 z9 cI cL fi la B G pr (nI N) hs cs mf ml M td lf laid piled prs 1) H := hP
      have hD : va_D (fun q : Nat => s.heap.size ≤ q) (lwW o fo q h a0 a1 a2 a3 a4 a5 g b0 b1 mo z1 z2 z3 z4 z5 z6 z7 z8 z9 cI cL fi la B G pr (nI N) hs cs mf ml M td lf laid piled prs 1) := hD
      refine W.eq (g2 := F0 m 928 ls [.int 0]) rfl ?_
      refine lv_istore (lv' := [(6, .int 0), (5, .int (cEnt la x1)), (4, .int (nI i)), (3, .ref o), (2, .ref mo), (1, .ref q), (0, .ref b)]) hx hb dL_law_928 hl (by decide) rfl (fun ls hl => ?_)
      refine lv_aload_n hx hb dL_law_930 rfl (lv_at hl 4 rfl) ?_
      refine pq_callV (rest := []) (wr := (o, .inl (cL, 1, .inr (.inl fo))) :: ppW q h a0 a1 a2 a3 a4 a5 g b0 b1 cI fi la B G pr) (own := RL) (nL := 9) (q0 := 12) (ci := 3) [12, 13, 14, 15, 16, 17, 18, 19, 20, 21] [0, 1, 2, 3, 4, 5, 6, 7, 8, 9, 10, 11] [] (mX3_thrown l D cI mo z1 z2 z3 z4 z5 z6 z7 z8 z9 (nI N) hs cs mf ml M td lf laid piled prs 1) ⟨hx, hb, hml, hown, hts⟩ (cwV 0 hts gL_law_X3_thrown rfl rfl rfl (by decide +kernel) ⟨Nat.le_of_ble_eq_true rfl, Nat.le_of_ble_eq_true rfl⟩) pq_bl0 (fun _ _ _ => trivial) (hK.sub [0] rfl) hP hD hS hA rfl (by decide) rfl (by decide) (by decide) rfl rfl rfl rfl hl.1 rfl (Nat.le_of_ble_eq_true rfl) dL_law_931 ⟨by show n + 1 + 0 + 0 ≤ 601024; omega, by show sl + 6 + 0 + 0 ≤ 7293034; omega⟩ (fun v w1 H locs hq hP hD hS hz => ?_)
      obtain ⟨rfl, rfl⟩ := hq
      have hP : va_P D vwCl (lwW o fo q h a0 a1 a2 a3 a4 a5 g b0 b1 mo z1 z2 z3 z4 z5 z6 z7 z8 z9 cI cL fi la B G pr (nI N) hs cs mf ml M td lf laid piled prs 1) H := hP
      have hD : va_D (fun q : Nat => s.heap.size ≤ q) (lwW o fo q h a0 a1 a2 a3 a4 a5 g b0 b1 mo z1 z2 z3 z4 z5 z6 z7 z8 z9 cI cL fi la B G pr (nI N) hs cs mf ml M td lf laid piled prs 1) := hD
      refine W.eq (g2 := F0 m 934 ls [.int 1]) rfl ?_
      refine lv_iload hx hb dL_law_934 (lv_at hl 1 rfl) ?_
      refine lv_icmp_eq (tgt := 941) hx hb dL_law_936 (by decide) (fun _ => ?_) (fun c9 => absurd (((iv_ent I x1).elim (fun z => absurd z.1 hne) (fun z => z.1.symm))) c9)
      refine lv_iload hx hb dL_law_941 (lv_at hl 1 rfl) ?_
      refine lv_if_ne (tgt := 958) hx hb dL_law_943 (by decide) (fun _ => ?_) (fun c9 => absurd c9 hne)
      refine lv_goto (tgt := 1291) hx hb dL_law_958 (by decide) ?_
      refine W.widen (k := n + 6) (n := sl + 36) (by omega) (by omega) ?_
      exact K _ H locs ls ⟨_, _, _, _, _, _, _, _, _, _, _, _, _, _, _, _, _, _, _, rfl, rfl, I, hg, hpr⟩ hP hD hS (lv_sub hl [2, 3, 4, 5, 6] rfl)
    · exact ((iv_ent I x1).elim (fun z => hne z.1) (fun z => z.2 (by rw [hxk2]; exact ent_mk hk2 hk3 hk4))).elim

set_option maxHeartbeats 4000000 in
set_option maxRecDepth 100000 in
theorem law_greatest {p : Program} {l : Launch} {ev : Env} {s : State} {m : MethodId} {b L : Nat} {xs : Nat → Int32} {below : List Frame} {meth : Method} {cd : Code} {Q : State → Prop} {o q h a0 a1 a2 a3 a4 a5 g b0 b1 mo z1 z2 z3 z4 z5 z6 z7 z8 z9 : Nat} {D : va_G} {cI cL : ClassId} {i n sl : Nat} (C : LC p l s m meth cd b L xs D cI cL) (hi : i + 4 ≤ L) (hn : n + 6 ≤ 600000) (hsl : sl + 36 ≤ 7000000) (K : LK p l ev s m b below meth cd Q o q h a0 a1 a2 a3 a4 a5 g b0 b1 mo z1 z2 z3 z4 z5 z6 z7 z8 z9 D cI cL i 1291 (n + 6) (sl + 36)) : LK p l ev s m b below meth cd Q o q h a0 a1 a2 a3 a4 a5 g b0 b1 mo z1 z2 z3 z4 z5 z6 z7 z8 z9 D cI cL i 961 n sl := by
  obtain ⟨hx, hb, hml, hown, hts, hX, hbl, hK, hE, hfl, hL⟩ := C
  have hA : ∀ q : Nat, s.heap.size ≤ q → (fun q : Nat => s.heap.size ≤ q) q := fun _ h => h
  have hbA : ¬ (fun q : Nat => s.heap.size ≤ q) b := Nat.not_le.mpr hbl
  rintro w H locs ls ⟨fo, fi, la, B, G, pr, N, hs, cs, mf, ml, M, td, lf, laid, piled, prs, thr, col, rfl, rfl, I, hg, hpr⟩ hP hD hS hl
  have hN1 := I.1
  have hN2 := I.2.1
  have hNN : G.2.2.1 = nI N := I.2.2.2.2.2.2.2.2
  have hT := I.2.2.2.1
  have hN5 : N < 65 := by omega
  obtain ⟨x1, hx1⟩ : ∃ z, z = xs (nI (i + 1)).toNatClampNeg := ⟨_, rfl⟩
  refine lv_aload_n hx hb dL_law_961 rfl (lv_at hl 3 rfl) ?_
  refine lv_aload_n hx hb dL_law_962 rfl (lv_at hl 4 rfl) ?_
  refine lv_iload hx hb dL_law_963 (lv_at hl 0 rfl) ?_
  refine lv_iconst (v := 1) hx hb dL_law_965 (by decide) ?_
  refine lv_iadd hx hb dL_law_966 ?_
  refine pq_top (nI (i + 1)) (nI_1 _) ?_
  refine va_sld hx hb hX hbl hbA hS (vp_in_nI (by omega) (by omega)) dL_law_967 ?_
  rw [← hx1]
  refine lv_aload_n hx hb dL_law_968 rfl (lv_at hl 1 rfl) ?_
  refine pq_callSW (wr := mdW mo z1 z2 z3 z4 z5 z6 z7 z8 z9 cI (nI N) hs cs mf ml M td lf laid piled prs thr) (own := RL) (nL := 9) [0, 1, 2, 3, 4, 5, 6, 7, 8, 9, 10, 11] [12, 13, 14, 15, 16, 17, 18, 19, 20, 21] [.ref q, .int x1, .ref o] (mL_greatest l D cI cL o fo q h a0 a1 a2 a3 a4 a5 g b0 b1 fi la B G pr N hfl hNN hN1 hN2 x1) ⟨hx, hb, hml, hown, hts⟩ (vx_cwSW 3 hts gL_law_L_greatest rfl rfl rfl (by decide +kernel) ⟨Nat.le_of_ble_eq_true rfl, Nat.le_of_ble_eq_true rfl⟩) pq_blL (hE.call hD hS hA [0, 1, 2, 3, 4, 5, 6, 7, 8, 9, 10, 11] rfl) hK hP hD hS hA rfl (by decide) rfl (by decide) (by decide) rfl hl.1 rfl (Nat.le_of_ble_eq_true rfl) dL_law_969 ⟨by show n + 1 ≤ 601024; omega, by show sl + 6 ≤ 7293034; omega⟩ (fun v w1 H locs hq hP hD hS hz => ?_)
  rcases hq with ⟨r, wc, hpost, rfl, rfl⟩ | ⟨hne, rfl, rfl⟩
  · obtain ⟨k, hxk, hk, hk9, hv, rfl, hc0⟩ := hpost
    have hr := vi_eq hv
    have hP : va_P D vwCl (lwW o (vp_updL fo 0 r.toInt64) q h a0 a1 a2 a3 a4 a5 g b0 b1 mo z1 z2 z3 z4 z5 z6 z7 z8 z9 cI cL fi la B G pr (nI N) hs cs mf ml M td lf laid piled prs thr) H := hP.sub [10, 11, 12, 13, 14, 15, 16, 17, 18, 19, 20, 21, 0, 1, 2, 3, 4, 5, 6, 7, 8, 9] rfl
    have hD : va_D (fun q : Nat => s.heap.size ≤ q) (lwW o (vp_updL fo 0 r.toInt64) q h a0 a1 a2 a3 a4 a5 g b0 b1 mo z1 z2 z3 z4 z5 z6 z7 z8 z9 cI cL fi la B G pr (nI N) hs cs mf ml M td lf laid piled prs thr) := hD.sub [10, 11, 12, 13, 14, 15, 16, 17, 18, 19, 20, 21, 0, 1, 2, 3, 4, 5, 6, 7, 8, 9] (by decide) rfl
    refine lv_istore (lv' := [(5, .int 0), (4, .int (nI i)), (3, .ref o), (2, .ref mo), (1, .ref q), (0, .ref b)]) hx hb dL_law_972 hl (by decide) rfl (fun ls hl => ?_)
    refine lv_aload_n hx hb dL_law_974 rfl (lv_at hl 3 rfl) ?_
    refine lv_aload_n hx hb dL_law_975 rfl (lv_at hl 5 rfl) ?_
    refine lv_iload hx hb dL_law_976 (lv_at hl 1 rfl) ?_
    refine lv_iconst (v := 1) hx hb dL_law_978 (by decide) ?_
    refine lv_iadd hx hb dL_law_979 ?_
    refine pq_top (nI (i + 1)) (nI_1 _) ?_
    refine va_sld hx hb hX hbl hbA hS (vp_in_nI (by omega) (by omega)) dL_law_980 ?_
    rw [← hx1]
    refine pq_callV (rest := []) (wr := (o, .inl (cL, 1, .inr (.inl (vp_updL fo 0 r.toInt64)))) :: ppW q h a0 a1 a2 a3 a4 a5 g b0 b1 cI fi la B G pr) (own := RL) (nL := 9) (q0 := 12) (ci := 3) [12, 13, 14, 15, 16, 17, 18, 19, 20, 21] [0, 1, 2, 3, 4, 5, 6, 7, 8, 9, 10, 11] [.int x1] (mX3_greatest l D cI mo z1 z2 z3 z4 z5 z6 z7 z8 z9 (nI N) hs cs mf ml M td lf laid piled prs thr x1) ⟨hx, hb, hml, hown, hts⟩ (cwV 1 hts gL_law_X3_greatest rfl rfl rfl (by decide +kernel) ⟨Nat.le_of_ble_eq_true rfl, Nat.le_of_ble_eq_true rfl⟩) pq_bl0 (fun _ _ _ => trivial) (hK.sub [0] rfl) hP hD hS hA rfl (by decide) rfl (by decide) (by decide) rfl rfl rfl rfl hl.1 rfl (Nat.le_of_ble_eq_true rfl) dL_law_981 ⟨by show n + 1 + 0 ≤ 601024; omega, by show sl + 6 + 0 ≤ 7293034; omega⟩ (fun v w1 H locs hq hP hD hS hz => ?_)
    rcases hq with ⟨hm, rfl, rfl⟩ | ⟨k2, hxk2, hk2, hk3, hk4, rfl, rfl⟩
    · exact (hm ((iv_ent I x1).elim (fun z => z.2) (fun z => absurd (z.1.symm.trans hc0) c_ne1))).elim
    · skip
      have hP : va_P D vwCl (lwW o (vp_updL fo 0 r.toInt64) q h a0 a1 a2 a3 a4 a5 g b0 b1 mo z1 z2 z3 z4 z5 z6 z7 z8 z9 cI cL fi la B G pr (nI N) hs cs mf ml M td lf laid piled prs 0) H := hP
      have hD : va_D (fun q : Nat => s.heap.size ≤ q) (lwW o (vp_updL fo 0 r.toInt64) q h a0 a1 a2 a3 a4 a5 g b0 b1 mo z1 z2 z3 z4 z5 z6 z7 z8 z9 cI cL fi la B G pr (nI N) hs cs mf ml M td lf laid piled prs 0) := hD
      refine W.eq (g2 := F0 m 984 ls [.int (M.1 k2)]) rfl ?_
      refine lv_istore (lv' := [(6, .int (M.1 k2)), (5, .int 0), (4, .int (nI i)), (3, .ref o), (2, .ref mo), (1, .ref q), (0, .ref b)]) hx hb dL_law_984 hl (by decide) rfl (fun ls hl => ?_)
      refine lv_aload_n hx hb dL_law_986 rfl (lv_at hl 4 rfl) ?_
      refine pq_callV (rest := []) (wr := (o, .inl (cL, 1, .inr (.inl (vp_updL fo 0 r.toInt64)))) :: ppW q h a0 a1 a2 a3 a4 a5 g b0 b1 cI fi la B G pr) (own := RL) (nL := 9) (q0 := 12) (ci := 3) [12, 13, 14, 15, 16, 17, 18, 19, 20, 21] [0, 1, 2, 3, 4, 5, 6, 7, 8, 9, 10, 11] [] (mX3_thrown l D cI mo z1 z2 z3 z4 z5 z6 z7 z8 z9 (nI N) hs cs mf ml M td lf laid piled prs 0) ⟨hx, hb, hml, hown, hts⟩ (cwV 0 hts gL_law_X3_thrown rfl rfl rfl (by decide +kernel) ⟨Nat.le_of_ble_eq_true rfl, Nat.le_of_ble_eq_true rfl⟩) pq_bl0 (fun _ _ _ => trivial) (hK.sub [0] rfl) hP hD hS hA rfl (by decide) rfl (by decide) (by decide) rfl rfl rfl rfl hl.1 rfl (Nat.le_of_ble_eq_true rfl) dL_law_987 ⟨by show n + 1 + 0 + 0 ≤ 601024; omega, by show sl + 6 + 0 + 0 ≤ 7293034; omega⟩ (fun v w1 H locs hq hP hD hS hz => ?_)
      obtain ⟨rfl, rfl⟩ := hq
      have hP : va_P D vwCl (lwW o (vp_updL fo 0 r.toInt64) q h a0 a1 a2 a3 a4 a5 g b0 b1 mo z1 z2 z3 z4 z5 z6 z7 z8 z9 cI cL fi la B G pr (nI N) hs cs mf ml M td lf laid piled prs 0) H := hP
      have hD : va_D (fun q : Nat => s.heap.size ≤ q) (lwW o (vp_updL fo 0 r.toInt64) q h a0 a1 a2 a3 a4 a5 g b0 b1 mo z1 z2 z3 z4 z5 z6 z7 z8 z9 cI cL fi la B G pr (nI N) hs cs mf ml M td lf laid piled prs 0) := hD
      refine W.eq (g2 := F0 m 990 ls [.int 0]) rfl ?_
      refine lv_iload hx hb dL_law_990 (lv_at hl 1 rfl) ?_
      refine lv_icmp_eq (tgt := 997) hx hb dL_law_992 (by decide) (fun _ => ?_) (fun c9 => absurd rfl c9)
      refine lv_iload hx hb dL_law_997 (lv_at hl 1 rfl) ?_
      refine lv_if_ne (tgt := 1014) hx hb dL_law_999 (by decide) (fun c9 => absurd rfl c9) (fun _ => ?_)
      refine lv_aload_n hx hb dL_law_1002 rfl (lv_at hl 3 rfl) ?_
      refine lv_iconst (v := 0) hx hb dL_law_1003 (by decide) ?_
      refine pq_lald hx hb hK hP 0 1 rfl rfl dL_law_1004 ?_
      have hkk : k = k2 := nI_inj (by omega) (by omega) (hxk.symm.trans hxk2)
      subst hkk
      obtain ⟨e0, e1, e2, e3, e4, e5⟩ := iv_at I hk2 hk3 hk4
      have hans := hr.trans e2.symm
      have I2 := I
      have hg2 := hg
      have hpr2 := hpr
      rw [updL_0, hans]
      refine lv_iload hx hb dL_law_1005 (lv_at hl 0 rfl) ?_
      refine lv_i2l hx hb dL_law_1007 rfl ?_
      refine W.lcmp hx hb dL_law_1008 ?_
      rw [lg_cmp_s]
      refine lv_if_eq (tgt := 1014) hx hb dL_law_1009 (by decide) (fun _ => ?_) (fun c9 => absurd rfl c9)
      refine lv_goto (tgt := 1291) hx hb dL_law_1014 (by decide) ?_
      refine W.widen (k := n + 6) (n := sl + 36) (by omega) (by omega) ?_
      exact K _ H locs ls ⟨_, _, _, _, _, _, _, _, _, _, _, _, _, _, _, _, _, _, _, rfl, rfl, I2, hg2, hpr2⟩ hP hD hS (lv_sub hl [2, 3, 4, 5, 6] rfl)
  · skip
    have hP : va_P D vwCl (lwW o fo q h a0 a1 a2 a3 a4 a5 g b0 b1 mo z1 z2 z3 z4 z5 z6 z7 z8 z9 cI cL fi la B G pr (nI N) hs cs mf ml M td lf laid piled prs thr) H := hP.sub [10, 11, 12, 13, 14, 15, 16, 17, 18, 19, 20, 21, 0, 1, 2, 3, 4, 5, 6, 7, 8, 9] rfl
    have hD : va_D (fun q : Nat => s.heap.size ≤ q) (lwW o fo q h a0 a1 a2 a3 a4 a5 g b0 b1 mo z1 z2 z3 z4 z5 z6 z7 z8 z9 cI cL fi la B G pr (nI N) hs cs mf ml M td lf laid piled prs thr) := hD.sub [10, 11, 12, 13, 14, 15, 16, 17, 18, 19, 20, 21, 0, 1, 2, 3, 4, 5, 6, 7, 8, 9] (by decide) rfl
    refine lv_istore (lv' := [(5, .int (cEnt la x1)), (4, .int (nI i)), (3, .ref o), (2, .ref mo), (1, .ref q), (0, .ref b)]) hx hb dL_law_972 hl (by decide) rfl (fun ls hl => ?_)
    refine lv_aload_n hx hb dL_law_974 rfl (lv_at hl 3 rfl) ?_
    refine lv_aload_n hx hb dL_law_975 rfl (lv_at hl 5 rfl) ?_
    refine lv_iload hx hb dL_law_976 (lv_at hl 1 rfl) ?_
    refine lv_iconst (v := 1) hx hb dL_law_978 (by decide) ?_
    refine lv_iadd hx hb dL_law_979 ?_
    refine pq_top (nI (i + 1)) (nI_1 _) ?_
    refine va_sld hx hb hX hbl hbA hS (vp_in_nI (by omega) (by omega)) dL_law_980 ?_
    rw [← hx1]
    refine pq_callV (rest := []) (wr := (o, .inl (cL, 1, .inr (.inl fo))) :: ppW q h a0 a1 a2 a3 a4 a5 g b0 b1 cI fi la B G pr) (own := RL) (nL := 9) (q0 := 12) (ci := 3) [12, 13, 14, 15, 16, 17, 18, 19, 20, 21] [0, 1, 2, 3, 4, 5, 6, 7, 8, 9, 10, 11] [.int x1] (mX3_greatest l D cI mo z1 z2 z3 z4 z5 z6 z7 z8 z9 (nI N) hs cs mf ml M td lf laid piled prs thr x1) ⟨hx, hb, hml, hown, hts⟩ (cwV 1 hts gL_law_X3_greatest rfl rfl rfl (by decide +kernel) ⟨Nat.le_of_ble_eq_true rfl, Nat.le_of_ble_eq_true rfl⟩) pq_bl0 (fun _ _ _ => trivial) (hK.sub [0] rfl) hP hD hS hA rfl (by decide) rfl (by decide) (by decide) rfl rfl rfl rfl hl.1 rfl (Nat.le_of_ble_eq_true rfl) dL_law_981 ⟨by show n + 1 + 0 ≤ 601024; omega, by show sl + 6 + 0 ≤ 7293034; omega⟩ (fun v w1 H locs hq hP hD hS hz => ?_)
    rcases hq with ⟨hm, rfl, rfl⟩ | ⟨k2, hxk2, hk2, hk3, hk4, rfl, rfl⟩
    · skip
      have hP : va_P D vwCl (lwW o fo q h a0 a1 a2 a3 a4 a5 g b0 b1 mo z1 z2 z3 z4 z5 z6 z7 z8 z9 cI cL fi la B G pr (nI N) hs cs mf ml M td lf laid piled prs 1) H := hP
      have hD : va_D (fun q : Nat => s.heap.size ≤ q) (lwW o fo q h a0 a1 a2 a3 a4 a5 g b0 b1 mo z1 z2 z3 z4 z5 z6 z7 z8 z9 cI cL fi la B G pr (nI N) hs cs mf ml M td lf laid piled prs 1) := hD
      refine W.eq (g2 := F0 m 984 ls [.int 0]) rfl ?_
      refine lv_istore (lv' := [(6, .int 0), (5, .int (cEnt la x1)), (4, .int (nI i)), (3, .ref o), (2, .ref mo), (1, .ref q), (0, .ref b)]) hx hb dL_law_984 hl (by decide) rfl (fun ls hl => ?_)
      refine lv_aload_n hx hb dL_law_986 rfl (lv_at hl 4 rfl) ?_
      refine pq_callV (rest := []) (wr := (o, .inl (cL, 1, .inr (.inl fo))) :: ppW q h a0 a1 a2 a3 a4 a5 g b0 b1 cI fi la B G pr) (own := RL) (nL := 9) (q0 := 12) (ci := 3) [12, 13, 14, 15, 16, 17, 18, 19, 20, 21] [0, 1, 2, 3, 4, 5, 6, 7, 8, 9, 10, 11] [] (mX3_thrown l D cI mo z1 z2 z3 z4 z5 z6 z7 z8 z9 (nI N) hs cs mf ml M td lf laid piled prs 1) ⟨hx, hb, hml, hown, hts⟩ (cwV 0 hts gL_law_X3_thrown rfl rfl rfl (by decide +kernel) ⟨Nat.le_of_ble_eq_true rfl, Nat.le_of_ble_eq_true rfl⟩) pq_bl0 (fun _ _ _ => trivial) (hK.sub [0] rfl) hP hD hS hA rfl (by decide) rfl (by decide) (by decide) rfl rfl rfl rfl hl.1 rfl (Nat.le_of_ble_eq_true rfl) dL_law_987 ⟨by show n + 1 + 0 + 0 ≤ 601024; omega, by show sl + 6 + 0 + 0 ≤ 7293034; omega⟩ (fun v w1 H locs hq hP hD hS hz => ?_)
      obtain ⟨rfl, rfl⟩ := hq
      have hP : va_P D vwCl (lwW o fo q h a0 a1 a2 a3 a4 a5 g b0 b1 mo z1 z2 z3 z4 z5 z6 z7 z8 z9 cI cL fi la B G pr (nI N) hs cs mf ml M td lf laid piled prs 1) H := hP
      have hD : va_D (fun q : Nat => s.heap.size ≤ q) (lwW o fo q h a0 a1 a2 a3 a4 a5 g b0 b1 mo z1 z2 z3 z4 z5 z6 z7 z8 z9 cI cL fi la B G pr (nI N) hs cs mf ml M td lf laid piled prs 1) := hD
      refine W.eq (g2 := F0 m 990 ls [.int 1]) rfl ?_
      refine lv_iload hx hb dL_law_990 (lv_at hl 1 rfl) ?_
      refine lv_icmp_eq (tgt := 997) hx hb dL_law_992 (by decide) (fun _ => ?_) (fun c9 => absurd (((iv_ent I x1).elim (fun z => absurd z.1 hne) (fun z => z.1.symm))) c9)
      refine lv_iload hx hb dL_law_997 (lv_at hl 1 rfl) ?_
      refine lv_if_ne (tgt := 1014) hx hb dL_law_999 (by decide) (fun _ => ?_) (fun c9 => absurd c9 hne)
      refine lv_goto (tgt := 1291) hx hb dL_law_1014 (by decide) ?_
      refine W.widen (k := n + 6) (n := sl + 36) (by omega) (by omega) ?_
      exact K _ H locs ls ⟨_, _, _, _, _, _, _, _, _, _, _, _, _, _, _, _, _, _, _, rfl, rfl, I, hg, hpr⟩ hP hD hS (lv_sub hl [2, 3, 4, 5, 6] rfl)
    · exact ((iv_ent I x1).elim (fun z => hne z.1) (fun z => z.2 (by rw [hxk2]; exact ent_mk hk2 hk3 hk4))).elim

set_option maxHeartbeats 4000000 in
set_option maxRecDepth 100000 in
theorem law_second {p : Program} {l : Launch} {ev : Env} {s : State} {m : MethodId} {b L : Nat} {xs : Nat → Int32} {below : List Frame} {meth : Method} {cd : Code} {Q : State → Prop} {o q h a0 a1 a2 a3 a4 a5 g b0 b1 mo z1 z2 z3 z4 z5 z6 z7 z8 z9 : Nat} {D : va_G} {cI cL : ClassId} {i n sl : Nat} (C : LC p l s m meth cd b L xs D cI cL) (hi : i + 4 ≤ L) (hn : n + 6 ≤ 600000) (hsl : sl + 36 ≤ 7000000) (K : LK p l ev s m b below meth cd Q o q h a0 a1 a2 a3 a4 a5 g b0 b1 mo z1 z2 z3 z4 z5 z6 z7 z8 z9 D cI cL i 1291 (n + 6) (sl + 36)) : LK p l ev s m b below meth cd Q o q h a0 a1 a2 a3 a4 a5 g b0 b1 mo z1 z2 z3 z4 z5 z6 z7 z8 z9 D cI cL i 1017 n sl := by
  obtain ⟨hx, hb, hml, hown, hts, hX, hbl, hK, hE, hfl, hL⟩ := C
  have hA : ∀ q : Nat, s.heap.size ≤ q → (fun q : Nat => s.heap.size ≤ q) q := fun _ h => h
  have hbA : ¬ (fun q : Nat => s.heap.size ≤ q) b := Nat.not_le.mpr hbl
  rintro w H locs ls ⟨fo, fi, la, B, G, pr, N, hs, cs, mf, ml, M, td, lf, laid, piled, prs, thr, col, rfl, rfl, I, hg, hpr⟩ hP hD hS hl
  have hN1 := I.1
  have hN2 := I.2.1
  have hNN : G.2.2.1 = nI N := I.2.2.2.2.2.2.2.2
  have hT := I.2.2.2.1
  have hN5 : N < 65 := by omega
  obtain ⟨x1, hx1⟩ : ∃ z, z = xs (nI (i + 1)).toNatClampNeg := ⟨_, rfl⟩
  refine lv_aload_n hx hb dL_law_1017 rfl (lv_at hl 3 rfl) ?_
  refine lv_aload_n hx hb dL_law_1018 rfl (lv_at hl 4 rfl) ?_
  refine lv_iload hx hb dL_law_1019 (lv_at hl 0 rfl) ?_
  refine lv_iconst (v := 1) hx hb dL_law_1021 (by decide) ?_
  refine lv_iadd hx hb dL_law_1022 ?_
  refine pq_top (nI (i + 1)) (nI_1 _) ?_
  refine va_sld hx hb hX hbl hbA hS (vp_in_nI (by omega) (by omega)) dL_law_1023 ?_
  rw [← hx1]
  refine lv_aload_n hx hb dL_law_1024 rfl (lv_at hl 1 rfl) ?_
  refine pq_callSW (wr := mdW mo z1 z2 z3 z4 z5 z6 z7 z8 z9 cI (nI N) hs cs mf ml M td lf laid piled prs thr) (own := RL) (nL := 9) [0, 1, 2, 3, 4, 5, 6, 7, 8, 9, 10, 11] [12, 13, 14, 15, 16, 17, 18, 19, 20, 21] [.ref q, .int x1, .ref o] (mL_second l D cI cL o fo q h a0 a1 a2 a3 a4 a5 g b0 b1 fi la B G pr N hfl hNN hN1 hN2 x1) ⟨hx, hb, hml, hown, hts⟩ (vx_cwSW 3 hts gL_law_L_second rfl rfl rfl (by decide +kernel) ⟨Nat.le_of_ble_eq_true rfl, Nat.le_of_ble_eq_true rfl⟩) pq_blL (hE.call hD hS hA [0, 1, 2, 3, 4, 5, 6, 7, 8, 9, 10, 11] rfl) hK hP hD hS hA rfl (by decide) rfl (by decide) (by decide) rfl hl.1 rfl (Nat.le_of_ble_eq_true rfl) dL_law_1025 ⟨by show n + 1 ≤ 601024; omega, by show sl + 6 ≤ 7293034; omega⟩ (fun v w1 H locs hq hP hD hS hz => ?_)
  rcases hq with ⟨r, wc, hpost, rfl, rfl⟩ | ⟨hne, rfl, rfl⟩
  · obtain ⟨k, hxk, hk, hk9, hv, rfl, hc0⟩ := hpost
    have hr := vi_eq hv
    have hP : va_P D vwCl (lwW o (vp_updL fo 0 r.toInt64) q h a0 a1 a2 a3 a4 a5 g b0 b1 mo z1 z2 z3 z4 z5 z6 z7 z8 z9 cI cL fi la B G pr (nI N) hs cs mf ml M td lf laid piled prs thr) H := hP.sub [10, 11, 12, 13, 14, 15, 16, 17, 18, 19, 20, 21, 0, 1, 2, 3, 4, 5, 6, 7, 8, 9] rfl
    have hD : va_D (fun q : Nat => s.heap.size ≤ q) (lwW o (vp_updL fo 0 r.toInt64) q h a0 a1 a2 a3 a4 a5 g b0 b1 mo z1 z2 z3 z4 z5 z6 z7 z8 z9 cI cL fi la B G pr (nI N) hs cs mf ml M td lf laid piled prs thr) := hD.sub [10, 11, 12, 13, 14, 15, 16, 17, 18, 19, 20, 21, 0, 1, 2, 3, 4, 5, 6, 7, 8, 9] (by decide) rfl
    refine lv_istore (lv' := [(5, .int 0), (4, .int (nI i)), (3, .ref o), (2, .ref mo), (1, .ref q), (0, .ref b)]) hx hb dL_law_1028 hl (by decide) rfl (fun ls hl => ?_)
    refine lv_aload_n hx hb dL_law_1030 rfl (lv_at hl 3 rfl) ?_
    refine lv_aload_n hx hb dL_law_1031 rfl (lv_at hl 5 rfl) ?_
    refine lv_iload hx hb dL_law_1032 (lv_at hl 1 rfl) ?_
    refine lv_iconst (v := 1) hx hb dL_law_1034 (by decide) ?_
    refine lv_iadd hx hb dL_law_1035 ?_
    refine pq_top (nI (i + 1)) (nI_1 _) ?_
    refine va_sld hx hb hX hbl hbA hS (vp_in_nI (by omega) (by omega)) dL_law_1036 ?_
    rw [← hx1]
    refine pq_callV (rest := []) (wr := (o, .inl (cL, 1, .inr (.inl (vp_updL fo 0 r.toInt64)))) :: ppW q h a0 a1 a2 a3 a4 a5 g b0 b1 cI fi la B G pr) (own := RL) (nL := 9) (q0 := 12) (ci := 3) [12, 13, 14, 15, 16, 17, 18, 19, 20, 21] [0, 1, 2, 3, 4, 5, 6, 7, 8, 9, 10, 11] [.int x1] (mX3_second l D cI mo z1 z2 z3 z4 z5 z6 z7 z8 z9 (nI N) hs cs mf ml M td lf laid piled prs thr x1) ⟨hx, hb, hml, hown, hts⟩ (cwV 1 hts gL_law_X3_second rfl rfl rfl (by decide +kernel) ⟨Nat.le_of_ble_eq_true rfl, Nat.le_of_ble_eq_true rfl⟩) pq_bl0 (fun _ _ _ => trivial) (hK.sub [0] rfl) hP hD hS hA rfl (by decide) rfl (by decide) (by decide) rfl rfl rfl rfl hl.1 rfl (Nat.le_of_ble_eq_true rfl) dL_law_1037 ⟨by show n + 1 + 0 ≤ 601024; omega, by show sl + 6 + 0 ≤ 7293034; omega⟩ (fun v w1 H locs hq hP hD hS hz => ?_)
    rcases hq with ⟨hm, rfl, rfl⟩ | ⟨k2, hxk2, hk2, hk3, hk4, rfl, rfl⟩
    · exact (hm ((iv_ent I x1).elim (fun z => z.2) (fun z => absurd (z.1.symm.trans hc0) c_ne1))).elim
    · skip
      have hP : va_P D vwCl (lwW o (vp_updL fo 0 r.toInt64) q h a0 a1 a2 a3 a4 a5 g b0 b1 mo z1 z2 z3 z4 z5 z6 z7 z8 z9 cI cL fi la B G pr (nI N) hs cs mf ml M td lf laid piled prs 0) H := hP
      have hD : va_D (fun q : Nat => s.heap.size ≤ q) (lwW o (vp_updL fo 0 r.toInt64) q h a0 a1 a2 a3 a4 a5 g b0 b1 mo z1 z2 z3 z4 z5 z6 z7 z8 z9 cI cL fi la B G pr (nI N) hs cs mf ml M td lf laid piled prs 0) := hD
      refine W.eq (g2 := F0 m 1040 ls [.int (M.2.1 k2)]) rfl ?_
      refine lv_istore (lv' := [(6, .int (M.2.1 k2)), (5, .int 0), (4, .int (nI i)), (3, .ref o), (2, .ref mo), (1, .ref q), (0, .ref b)]) hx hb dL_law_1040 hl (by decide) rfl (fun ls hl => ?_)
      refine lv_aload_n hx hb dL_law_1042 rfl (lv_at hl 4 rfl) ?_
      refine pq_callV (rest := []) (wr := (o, .inl (cL, 1, .inr (.inl (vp_updL fo 0 r.toInt64)))) :: ppW q h a0 a1 a2 a3 a4 a5 g b0 b1 cI fi la B G pr) (own := RL) (nL := 9) (q0 := 12) (ci := 3) [12, 13, 14, 15, 16, 17, 18, 19, 20, 21] [0, 1, 2, 3, 4, 5, 6, 7, 8, 9, 10, 11] [] (mX3_thrown l D cI mo z1 z2 z3 z4 z5 z6 z7 z8 z9 (nI N) hs cs mf ml M td lf laid piled prs 0) ⟨hx, hb, hml, hown, hts⟩ (cwV 0 hts gL_law_X3_thrown rfl rfl rfl (by decide +kernel) ⟨Nat.le_of_ble_eq_true rfl, Nat.le_of_ble_eq_true rfl⟩) pq_bl0 (fun _ _ _ => trivial) (hK.sub [0] rfl) hP hD hS hA rfl (by decide) rfl (by decide) (by decide) rfl rfl rfl rfl hl.1 rfl (Nat.le_of_ble_eq_true rfl) dL_law_1043 ⟨by show n + 1 + 0 + 0 ≤ 601024; omega, by show sl + 6 + 0 + 0 ≤ 7293034; omega⟩ (fun v w1 H locs hq hP hD hS hz => ?_)
      obtain ⟨rfl, rfl⟩ := hq
      have hP : va_P D vwCl (lwW o (vp_updL fo 0 r.toInt64) q h a0 a1 a2 a3 a4 a5 g b0 b1 mo z1 z2 z3 z4 z5 z6 z7 z8 z9 cI cL fi la B G pr (nI N) hs cs mf ml M td lf laid piled prs 0) H := hP
      have hD : va_D (fun q : Nat => s.heap.size ≤ q) (lwW o (vp_updL fo 0 r.toInt64) q h a0 a1 a2 a3 a4 a5 g b0 b1 mo z1 z2 z3 z4 z5 z6 z7 z8 z9 cI cL fi la B G pr (nI N) hs cs mf ml M td lf laid piled prs 0) := hD
      refine W.eq (g2 := F0 m 1046 ls [.int 0]) rfl ?_
      refine lv_iload hx hb dL_law_1046 (lv_at hl 1 rfl) ?_
      refine lv_icmp_eq (tgt := 1053) hx hb dL_law_1048 (by decide) (fun _ => ?_) (fun c9 => absurd rfl c9)
      refine lv_iload hx hb dL_law_1053 (lv_at hl 1 rfl) ?_
      refine lv_if_ne (tgt := 1070) hx hb dL_law_1055 (by decide) (fun c9 => absurd rfl c9) (fun _ => ?_)
      refine lv_aload_n hx hb dL_law_1058 rfl (lv_at hl 3 rfl) ?_
      refine lv_iconst (v := 0) hx hb dL_law_1059 (by decide) ?_
      refine pq_lald hx hb hK hP 0 1 rfl rfl dL_law_1060 ?_
      have hkk : k = k2 := nI_inj (by omega) (by omega) (hxk.symm.trans hxk2)
      subst hkk
      obtain ⟨e0, e1, e2, e3, e4, e5⟩ := iv_at I hk2 hk3 hk4
      have hans := hr.trans e3.symm
      have I2 := I
      have hg2 := hg
      have hpr2 := hpr
      rw [updL_0, hans]
      refine lv_iload hx hb dL_law_1061 (lv_at hl 0 rfl) ?_
      refine lv_i2l hx hb dL_law_1063 rfl ?_
      refine W.lcmp hx hb dL_law_1064 ?_
      rw [lg_cmp_s]
      refine lv_if_eq (tgt := 1070) hx hb dL_law_1065 (by decide) (fun _ => ?_) (fun c9 => absurd rfl c9)
      refine lv_goto (tgt := 1291) hx hb dL_law_1070 (by decide) ?_
      refine W.widen (k := n + 6) (n := sl + 36) (by omega) (by omega) ?_
      exact K _ H locs ls ⟨_, _, _, _, _, _, _, _, _, _, _, _, _, _, _, _, _, _, _, rfl, rfl, I2, hg2, hpr2⟩ hP hD hS (lv_sub hl [2, 3, 4, 5, 6] rfl)
  · skip
    have hP : va_P D vwCl (lwW o fo q h a0 a1 a2 a3 a4 a5 g b0 b1 mo z1 z2 z3 z4 z5 z6 z7 z8 z9 cI cL fi la B G pr (nI N) hs cs mf ml M td lf laid piled prs thr) H := hP.sub [10, 11, 12, 13, 14, 15, 16, 17, 18, 19, 20, 21, 0, 1, 2, 3, 4, 5, 6, 7, 8, 9] rfl
    have hD : va_D (fun q : Nat => s.heap.size ≤ q) (lwW o fo q h a0 a1 a2 a3 a4 a5 g b0 b1 mo z1 z2 z3 z4 z5 z6 z7 z8 z9 cI cL fi la B G pr (nI N) hs cs mf ml M td lf laid piled prs thr) := hD.sub [10, 11, 12, 13, 14, 15, 16, 17, 18, 19, 20, 21, 0, 1, 2, 3, 4, 5, 6, 7, 8, 9] (by decide) rfl
    refine lv_istore (lv' := [(5, .int (cEnt la x1)), (4, .int (nI i)), (3, .ref o), (2, .ref mo), (1, .ref q), (0, .ref b)]) hx hb dL_law_1028 hl (by decide) rfl (fun ls hl => ?_)
    refine lv_aload_n hx hb dL_law_1030 rfl (lv_at hl 3 rfl) ?_
    refine lv_aload_n hx hb dL_law_1031 rfl (lv_at hl 5 rfl) ?_
    refine lv_iload hx hb dL_law_1032 (lv_at hl 1 rfl) ?_
    refine lv_iconst (v := 1) hx hb dL_law_1034 (by decide) ?_
    refine lv_iadd hx hb dL_law_1035 ?_
    refine pq_top (nI (i + 1)) (nI_1 _) ?_
    refine va_sld hx hb hX hbl hbA hS (vp_in_nI (by omega) (by omega)) dL_law_1036 ?_
    rw [← hx1]
    refine pq_callV (rest := []) (wr := (o, .inl (cL, 1, .inr (.inl fo))) :: ppW q h a0 a1 a2 a3 a4 a5 g b0 b1 cI fi la B G pr) (own := RL) (nL := 9) (q0 := 12) (ci := 3) [12, 13, 14, 15, 16, 17, 18, 19, 20, 21] [0, 1, 2, 3, 4, 5, 6, 7, 8, 9, 10, 11] [.int x1] (mX3_second l D cI mo z1 z2 z3 z4 z5 z6 z7 z8 z9 (nI N) hs cs mf ml M td lf laid piled prs thr x1) ⟨hx, hb, hml, hown, hts⟩ (cwV 1 hts gL_law_X3_second rfl rfl rfl (by decide +kernel) ⟨Nat.le_of_ble_eq_true rfl, Nat.le_of_ble_eq_true rfl⟩) pq_bl0 (fun _ _ _ => trivial) (hK.sub [0] rfl) hP hD hS hA rfl (by decide) rfl (by decide) (by decide) rfl rfl rfl rfl hl.1 rfl (Nat.le_of_ble_eq_true rfl) dL_law_1037 ⟨by show n + 1 + 0 ≤ 601024; omega, by show sl + 6 + 0 ≤ 7293034; omega⟩ (fun v w1 H locs hq hP hD hS hz => ?_)
    rcases hq with ⟨hm, rfl, rfl⟩ | ⟨k2, hxk2, hk2, hk3, hk4, rfl, rfl⟩
    · skip
      have hP : va_P D vwCl (lwW o fo q h a0 a1 a2 a3 a4 a5 g b0 b1 mo z1 z2 z3 z4 z5 z6 z7 z8 z9 cI cL fi la B G pr (nI N) hs cs mf ml M td lf laid piled prs 1) H := hP
      have hD : va_D (fun q : Nat => s.heap.size ≤ q) (lwW o fo q h a0 a1 a2 a3 a4 a5 g b0 b1 mo z1 z2 z3 z4 z5 z6 z7 z8 z9 cI cL fi la B G pr (nI N) hs cs mf ml M td lf laid piled prs 1) := hD
      refine W.eq (g2 := F0 m 1040 ls [.int 0]) rfl ?_
      refine lv_istore (lv' := [(6, .int 0), (5, .int (cEnt la x1)), (4, .int (nI i)), (3, .ref o), (2, .ref mo), (1, .ref q), (0, .ref b)]) hx hb dL_law_1040 hl (by decide) rfl (fun ls hl => ?_)
      refine lv_aload_n hx hb dL_law_1042 rfl (lv_at hl 4 rfl) ?_
      refine pq_callV (rest := []) (wr := (o, .inl (cL, 1, .inr (.inl fo))) :: ppW q h a0 a1 a2 a3 a4 a5 g b0 b1 cI fi la B G pr) (own := RL) (nL := 9) (q0 := 12) (ci := 3) [12, 13, 14, 15, 16, 17, 18, 19, 20, 21] [0, 1, 2, 3, 4, 5, 6, 7, 8, 9, 10, 11] [] (mX3_thrown l D cI mo z1 z2 z3 z4 z5 z6 z7 z8 z9 (nI N) hs cs mf ml M td lf laid piled prs 1) ⟨hx, hb, hml, hown, hts⟩ (cwV 0 hts gL_law_X3_thrown rfl rfl rfl (by decide +kernel) ⟨Nat.le_of_ble_eq_true rfl, Nat.le_of_ble_eq_true rfl⟩) pq_bl0 (fun _ _ _ => trivial) (hK.sub [0] rfl) hP hD hS hA rfl (by decide) rfl (by decide) (by decide) rfl rfl rfl rfl hl.1 rfl (Nat.le_of_ble_eq_true rfl) dL_law_1043 ⟨by show n + 1 + 0 + 0 ≤ 601024; omega, by show sl + 6 + 0 + 0 ≤ 7293034; omega⟩ (fun v w1 H locs hq hP hD hS hz => ?_)
      obtain ⟨rfl, rfl⟩ := hq
      have hP : va_P D vwCl (lwW o fo q h a0 a1 a2 a3 a4 a5 g b0 b1 mo z1 z2 z3 z4 z5 z6 z7 z8 z9 cI cL fi la B G pr (nI N) hs cs mf ml M td lf laid piled prs 1) H := hP
      have hD : va_D (fun q : Nat => s.heap.size ≤ q) (lwW o fo q h a0 a1 a2 a3 a4 a5 g b0 b1 mo z1 z2 z3 z4 z5 z6 z7 z8 z9 cI cL fi la B G pr (nI N) hs cs mf ml M td lf laid piled prs 1) := hD
      refine W.eq (g2 := F0 m 1046 ls [.int 1]) rfl ?_
      refine lv_iload hx hb dL_law_1046 (lv_at hl 1 rfl) ?_
      refine lv_icmp_eq (tgt := 1053) hx hb dL_law_1048 (by decide) (fun _ => ?_) (fun c9 => absurd (((iv_ent I x1).elim (fun z => absurd z.1 hne) (fun z => z.1.symm))) c9)
      refine lv_iload hx hb dL_law_1053 (lv_at hl 1 rfl) ?_
      refine lv_if_ne (tgt := 1070) hx hb dL_law_1055 (by decide) (fun _ => ?_) (fun c9 => absurd c9 hne)
      refine lv_goto (tgt := 1291) hx hb dL_law_1070 (by decide) ?_
      refine W.widen (k := n + 6) (n := sl + 36) (by omega) (by omega) ?_
      exact K _ H locs ls ⟨_, _, _, _, _, _, _, _, _, _, _, _, _, _, _, _, _, _, _, rfl, rfl, I, hg, hpr⟩ hP hD hS (lv_sub hl [2, 3, 4, 5, 6] rfl)
    · exact ((iv_ent I x1).elim (fun z => hne z.1) (fun z => z.2 (by rw [hxk2]; exact ent_mk hk2 hk3 hk4))).elim

set_option maxHeartbeats 4000000 in
set_option maxRecDepth 100000 in
theorem law_many {p : Program} {l : Launch} {ev : Env} {s : State} {m : MethodId} {b L : Nat} {xs : Nat → Int32} {below : List Frame} {meth : Method} {cd : Code} {Q : State → Prop} {o q h a0 a1 a2 a3 a4 a5 g b0 b1 mo z1 z2 z3 z4 z5 z6 z7 z8 z9 : Nat} {D : va_G} {cI cL : ClassId} {i n sl : Nat} (C : LC p l s m meth cd b L xs D cI cL) (hi : i + 4 ≤ L) (hn : n + 6 ≤ 600000) (hsl : sl + 36 ≤ 7000000) (K : LK p l ev s m b below meth cd Q o q h a0 a1 a2 a3 a4 a5 g b0 b1 mo z1 z2 z3 z4 z5 z6 z7 z8 z9 D cI cL i 1291 (n + 6) (sl + 36)) : LK p l ev s m b below meth cd Q o q h a0 a1 a2 a3 a4 a5 g b0 b1 mo z1 z2 z3 z4 z5 z6 z7 z8 z9 D cI cL i 1073 n sl := by
  obtain ⟨hx, hb, hml, hown, hts, hX, hbl, hK, hE, hfl, hL⟩ := C
  have hA : ∀ q : Nat, s.heap.size ≤ q → (fun q : Nat => s.heap.size ≤ q) q := fun _ h => h
  have hbA : ¬ (fun q : Nat => s.heap.size ≤ q) b := Nat.not_le.mpr hbl
  rintro w H locs ls ⟨fo, fi, la, B, G, pr, N, hs, cs, mf, ml, M, td, lf, laid, piled, prs, thr, col, rfl, rfl, I, hg, hpr⟩ hP hD hS hl
  have hN1 := I.1
  have hN2 := I.2.1
  have hNN : G.2.2.1 = nI N := I.2.2.2.2.2.2.2.2
  have hT := I.2.2.2.1
  have hN5 : N < 65 := by omega
  obtain ⟨x1, hx1⟩ : ∃ z, z = xs (nI (i + 1)).toNatClampNeg := ⟨_, rfl⟩
  refine lv_aload_n hx hb dL_law_1073 rfl (lv_at hl 3 rfl) ?_
  refine lv_aload_n hx hb dL_law_1074 rfl (lv_at hl 4 rfl) ?_
  refine lv_iload hx hb dL_law_1075 (lv_at hl 0 rfl) ?_
  refine lv_iconst (v := 1) hx hb dL_law_1077 (by decide) ?_
  refine lv_iadd hx hb dL_law_1078 ?_
  refine pq_top (nI (i + 1)) (nI_1 _) ?_
  refine va_sld hx hb hX hbl hbA hS (vp_in_nI (by omega) (by omega)) dL_law_1079 ?_
  rw [← hx1]
  refine lv_aload_n hx hb dL_law_1080 rfl (lv_at hl 1 rfl) ?_
  refine pq_callSW (wr := mdW mo z1 z2 z3 z4 z5 z6 z7 z8 z9 cI (nI N) hs cs mf ml M td lf laid piled prs thr) (own := RL) (nL := 9) [0, 1, 2, 3, 4, 5, 6, 7, 8, 9, 10, 11] [12, 13, 14, 15, 16, 17, 18, 19, 20, 21] [.ref q, .int x1, .ref o] (mL_many l D cI cL o fo q h a0 a1 a2 a3 a4 a5 g b0 b1 fi la B G pr N hfl hNN hN1 hN2 x1) ⟨hx, hb, hml, hown, hts⟩ (vx_cwSW 3 hts gL_law_L_many rfl rfl rfl (by decide +kernel) ⟨Nat.le_of_ble_eq_true rfl, Nat.le_of_ble_eq_true rfl⟩) pq_blL (hE.call hD hS hA [0, 1, 2, 3, 4, 5, 6, 7, 8, 9, 10, 11] rfl) hK hP hD hS hA rfl (by decide) rfl (by decide) (by decide) rfl hl.1 rfl (Nat.le_of_ble_eq_true rfl) dL_law_1081 ⟨by show n + 1 ≤ 601024; omega, by show sl + 6 ≤ 7293034; omega⟩ (fun v w1 H locs hq hP hD hS hz => ?_)
  rcases hq with ⟨r, wc, hpost, rfl, rfl⟩ | ⟨hne, rfl, rfl⟩
  · obtain ⟨k, hxk, hk, hk9, hv, rfl, hc0⟩ := hpost
    have hr := vi_eq hv
    have hP : va_P D vwCl (lwW o (vp_updL fo 0 r.toInt64) q h a0 a1 a2 a3 a4 a5 g b0 b1 mo z1 z2 z3 z4 z5 z6 z7 z8 z9 cI cL fi la B G pr (nI N) hs cs mf ml M td lf laid piled prs thr) H := hP.sub [10, 11, 12, 13, 14, 15, 16, 17, 18, 19, 20, 21, 0, 1, 2, 3, 4, 5, 6, 7, 8, 9] rfl
    have hD : va_D (fun q : Nat => s.heap.size ≤ q) (lwW o (vp_updL fo 0 r.toInt64) q h a0 a1 a2 a3 a4 a5 g b0 b1 mo z1 z2 z3 z4 z5 z6 z7 z8 z9 cI cL fi la B G pr (nI N) hs cs mf ml M td lf laid piled prs thr) := hD.sub [10, 11, 12, 13, 14, 15, 16, 17, 18, 19, 20, 21, 0, 1, 2, 3, 4, 5, 6, 7, 8, 9] (by decide) rfl
    refine lv_istore (lv' := [(5, .int 0), (4, .int (nI i)), (3, .ref o), (2, .ref mo), (1, .ref q), (0, .ref b)]) hx hb dL_law_1084 hl (by decide) rfl (fun ls hl => ?_)
    refine lv_aload_n hx hb dL_law_1086 rfl (lv_at hl 3 rfl) ?_
    refine lv_aload_n hx hb dL_law_1087 rfl (lv_at hl 5 rfl) ?_
    refine lv_iload hx hb dL_law_1088 (lv_at hl 1 rfl) ?_
    refine lv_iconst (v := 1) hx hb dL_law_1090 (by decide) ?_
    refine lv_iadd hx hb dL_law_1091 ?_
    refine pq_top (nI (i + 1)) (nI_1 _) ?_
    refine va_sld hx hb hX hbl hbA hS (vp_in_nI (by omega) (by omega)) dL_law_1092 ?_
    rw [← hx1]
    refine pq_callV (rest := []) (wr := (o, .inl (cL, 1, .inr (.inl (vp_updL fo 0 r.toInt64)))) :: ppW q h a0 a1 a2 a3 a4 a5 g b0 b1 cI fi la B G pr) (own := RL) (nL := 9) (q0 := 12) (ci := 3) [12, 13, 14, 15, 16, 17, 18, 19, 20, 21] [0, 1, 2, 3, 4, 5, 6, 7, 8, 9, 10, 11] [.int x1] (mX3_many l D cI mo z1 z2 z3 z4 z5 z6 z7 z8 z9 (nI N) hs cs mf ml M td lf laid piled prs thr x1) ⟨hx, hb, hml, hown, hts⟩ (cwV 1 hts gL_law_X3_many rfl rfl rfl (by decide +kernel) ⟨Nat.le_of_ble_eq_true rfl, Nat.le_of_ble_eq_true rfl⟩) pq_bl0 (fun _ _ _ => trivial) (hK.sub [0] rfl) hP hD hS hA rfl (by decide) rfl (by decide) (by decide) rfl rfl rfl rfl hl.1 rfl (Nat.le_of_ble_eq_true rfl) dL_law_1093 ⟨by show n + 1 + 0 ≤ 601024; omega, by show sl + 6 + 0 ≤ 7293034; omega⟩ (fun v w1 H locs hq hP hD hS hz => ?_)
    rcases hq with ⟨hm, rfl, rfl⟩ | ⟨k2, hxk2, hk2, hk3, hk4, rfl, rfl⟩
    · exact (hm ((iv_ent I x1).elim (fun z => z.2) (fun z => absurd (z.1.symm.trans hc0) c_ne1))).elim
    · skip
      have hP : va_P D vwCl (lwW o (vp_updL fo 0 r.toInt64) q h a0 a1 a2 a3 a4 a5 g b0 b1 mo z1 z2 z3 z4 z5 z6 z7 z8 z9 cI cL fi la B G pr (nI N) hs cs mf ml M td lf laid piled prs 0) H := hP
      have hD : va_D (fun q : Nat => s.heap.size ≤ q) (lwW o (vp_updL fo 0 r.toInt64) q h a0 a1 a2 a3 a4 a5 g b0 b1 mo z1 z2 z3 z4 z5 z6 z7 z8 z9 cI cL fi la B G pr (nI N) hs cs mf ml M td lf laid piled prs 0) := hD
      refine W.eq (g2 := F0 m 1096 ls [.int (M.2.2.1 k2)]) rfl ?_
      refine lv_istore (lv' := [(6, .int (M.2.2.1 k2)), (5, .int 0), (4, .int (nI i)), (3, .ref o), (2, .ref mo), (1, .ref q), (0, .ref b)]) hx hb dL_law_1096 hl (by decide) rfl (fun ls hl => ?_)
      refine lv_aload_n hx hb dL_law_1098 rfl (lv_at hl 4 rfl) ?_
      refine pq_callV (rest := []) (wr := (o, .inl (cL, 1, .inr (.inl (vp_updL fo 0 r.toInt64)))) :: ppW q h a0 a1 a2 a3 a4 a5 g b0 b1 cI fi la B G pr) (own := RL) (nL := 9) (q0 := 12) (ci := 3) [12, 13, 14, 15, 16, 17, 18, 19, 20, 21] [0, 1, 2, 3, 4, 5, 6, 7, 8, 9, 10, 11] [] (mX3_thrown l D cI mo z1 z2 z3 z4 z5 z6 z7 z8 z9 (nI N) hs cs mf ml M td lf laid piled prs 0) ⟨hx, hb, hml, hown, hts⟩ (cwV 0 hts gL_law_X3_thrown rfl rfl rfl (by decide +kernel) ⟨Nat.le_of_ble_eq_true rfl, Nat.le_of_ble_eq_true rfl⟩) pq_bl0 (fun _ _ _ => trivial) (hK.sub [0] rfl) hP hD hS hA rfl (by decide) rfl (by decide) (by decide) rfl rfl rfl rfl hl.1 rfl (Nat.le_of_ble_eq_true rfl) dL_law_1099 ⟨by show n + 1 + 0 + 0 ≤ 601024; omega, by show sl + 6 + 0 + 0 ≤ 7293034; omega⟩ (fun v w1 H locs hq hP hD hS hz => ?_)
      obtain ⟨rfl, rfl⟩ := hq
      have hP : va_P D vwCl (lwW o (vp_updL fo 0 r.toInt64) q h a0 a1 a2 a3 a4 a5 g b0 b1 mo z1 z2 z3 z4 z5 z6 z7 z8 z9 cI cL fi la B G pr (nI N) hs cs mf ml M td lf laid piled prs 0) H := hP
      have hD : va_D (fun q : Nat => s.heap.size ≤ q) (lwW o (vp_updL fo 0 r.toInt64) q h a0 a1 a2 a3 a4 a5 g b0 b1 mo z1 z2 z3 z4 z5 z6 z7 z8 z9 cI cL fi la B G pr (nI N) hs cs mf ml M td lf laid piled prs 0) := hD
      refine W.eq (g2 := F0 m 1102 ls [.int 0]) rfl ?_
      refine lv_iload hx hb dL_law_1102 (lv_at hl 1 rfl) ?_
      refine lv_icmp_eq (tgt := 1109) hx hb dL_law_1104 (by decide) (fun _ => ?_) (fun c9 => absurd rfl c9)
      refine lv_iload hx hb dL_law_1109 (lv_at hl 1 rfl) ?_
      refine lv_if_ne (tgt := 1126) hx hb dL_law_1111 (by decide) (fun c9 => absurd rfl c9) (fun _ => ?_)
      refine lv_aload_n hx hb dL_law_1114 rfl (lv_at hl 3 rfl) ?_
      refine lv_iconst (v := 0) hx hb dL_law_1115 (by decide) ?_
      refine pq_lald hx hb hK hP 0 1 rfl rfl dL_law_1116 ?_
      have hkk : k = k2 := nI_inj (by omega) (by omega) (hxk.symm.trans hxk2)
      subst hkk
      obtain ⟨e0, e1, e2, e3, e4, e5⟩ := iv_at I hk2 hk3 hk4
      have hans := hr.trans e4.symm
      have I2 := I
      have hg2 := hg
      have hpr2 := hpr
      rw [updL_0, hans]
      refine lv_iload hx hb dL_law_1117 (lv_at hl 0 rfl) ?_
      refine lv_i2l hx hb dL_law_1119 rfl ?_
      refine W.lcmp hx hb dL_law_1120 ?_
      rw [lg_cmp_s]
      refine lv_if_eq (tgt := 1126) hx hb dL_law_1121 (by decide) (fun _ => ?_) (fun c9 => absurd rfl c9)
      refine lv_goto (tgt := 1291) hx hb dL_law_1126 (by decide) ?_
      refine W.widen (k := n + 6) (n := sl + 36) (by omega) (by omega) ?_
      exact K _ H locs ls ⟨_, _, _, _, _, _, _, _, _, _, _, _, _, _, _, _, _, _, _, rfl, rfl, I2, hg2, hpr2⟩ hP hD hS (lv_sub hl [2, 3, 4, 5, 6] rfl)
  · skip
    have hP : va_P D vwCl (lwW o fo q h a0 a1 a2 a3 a4 a5 g b0 b1 mo z1 z2 z3 z4 z5 z6 z7 z8 z9 cI cL fi la B G pr (nI N) hs cs mf ml M td lf laid piled prs thr) H := hP.sub [10, 11, 12, 13, 14, 15, 16, 17, 18, 19, 20, 21, 0, 1, 2, 3, 4, 5, 6, 7, 8, 9] rfl
    have hD : va_D (fun q : Nat => s.heap.size ≤ q) (lwW o fo q h a0 a1 a2 a3 a4 a5 g b0 b1 mo z1 z2 z3 z4 z5 z6 z7 z8 z9 cI cL fi la B G pr (nI N) hs cs mf ml M td lf laid piled prs thr) := hD.sub [10, 11, 12, 13, 14, 15, 16, 17, 18, 19, 20, 21, 0, 1, 2, 3, 4, 5, 6, 7, 8, 9] (by decide) rfl
    refine lv_istore (lv' := [(5, .int (cEnt la x1)), (4, .int (nI i)), (3, .ref o), (2, .ref mo), (1, .ref q), (0, .ref b)]) hx hb dL_law_1084 hl (by decide) rfl (fun ls hl => ?_)
    refine lv_aload_n hx hb dL_law_1086 rfl (lv_at hl 3 rfl) ?_
    refine lv_aload_n hx hb dL_law_1087 rfl (lv_at hl 5 rfl) ?_
    refine lv_iload hx hb dL_law_1088 (lv_at hl 1 rfl) ?_
    refine lv_iconst (v := 1) hx hb dL_law_1090 (by decide) ?_
    refine lv_iadd hx hb dL_law_1091 ?_
    refine pq_top (nI (i + 1)) (nI_1 _) ?_
    refine va_sld hx hb hX hbl hbA hS (vp_in_nI (by omega) (by omega)) dL_law_1092 ?_
    rw [← hx1]
    refine pq_callV (rest := []) (wr := (o, .inl (cL, 1, .inr (.inl fo))) :: ppW q h a0 a1 a2 a3 a4 a5 g b0 b1 cI fi la B G pr) (own := RL) (nL := 9) (q0 := 12) (ci := 3) [12, 13, 14, 15, 16, 17, 18, 19, 20, 21] [0, 1, 2, 3, 4, 5, 6, 7, 8, 9, 10, 11] [.int x1] (mX3_many l D cI mo z1 z2 z3 z4 z5 z6 z7 z8 z9 (nI N) hs cs mf ml M td lf laid piled prs thr x1) ⟨hx, hb, hml, hown, hts⟩ (cwV 1 hts gL_law_X3_many rfl rfl rfl (by decide +kernel) ⟨Nat.le_of_ble_eq_true rfl, Nat.le_of_ble_eq_true rfl⟩) pq_bl0 (fun _ _ _ => trivial) (hK.sub [0] rfl) hP hD hS hA rfl (by decide) rfl (by decide) (by decide) rfl rfl rfl rfl hl.1 rfl (Nat.le_of_ble_eq_true rfl) dL_law_1093 ⟨by show n + 1 + 0 ≤ 601024; omega, by show sl + 6 + 0 ≤ 7293034; omega⟩ (fun v w1 H locs hq hP hD hS hz => ?_)
    rcases hq with ⟨hm, rfl, rfl⟩ | ⟨k2, hxk2, hk2, hk3, hk4, rfl, rfl⟩
    · skip
      have hP : va_P D vwCl (lwW o fo q h a0 a1 a2 a3 a4 a5 g b0 b1 mo z1 z2 z3 z4 z5 z6 z7 z8 z9 cI cL fi la B G pr (nI N) hs cs mf ml M td lf laid piled prs 1) H := hP
      have hD : va_D (fun q : Nat => s.heap.size ≤ q) (lwW o fo q h a0 a1 a2 a3 a4 a5 g b0 b1 mo z1 z2 z3 z4 z5 z6 z7 z8 z9 cI cL fi la B G pr (nI N) hs cs mf ml M td lf laid piled prs 1) := hD
      refine W.eq (g2 := F0 m 1096 ls [.int 0]) rfl ?_
      refine lv_istore (lv' := [(6, .int 0), (5, .int (cEnt la x1)), (4, .int (nI i)), (3, .ref o), (2, .ref mo), (1, .ref q), (0, .ref b)]) hx hb dL_law_1096 hl (by decide) rfl (fun ls hl => ?_)
      refine lv_aload_n hx hb dL_law_1098 rfl (lv_at hl 4 rfl) ?_
      refine pq_callV (rest := []) (wr := (o, .inl (cL, 1, .inr (.inl fo))) :: ppW q h a0 a1 a2 a3 a4 a5 g b0 b1 cI fi la B G pr) (own := RL) (nL := 9) (q0 := 12) (ci := 3) [12, 13, 14, 15, 16, 17, 18, 19, 20, 21] [0, 1, 2, 3, 4, 5, 6, 7, 8, 9, 10, 11] [] (mX3_thrown l D cI mo z1 z2 z3 z4 z5 z6 z7 z8 z9 (nI N) hs cs mf ml M td lf laid piled prs 1) ⟨hx, hb, hml, hown, hts⟩ (cwV 0 hts gL_law_X3_thrown rfl rfl rfl (by decide +kernel) ⟨Nat.le_of_ble_eq_true rfl, Nat.le_of_ble_eq_true rfl⟩) pq_bl0 (fun _ _ _ => trivial) (hK.sub [0] rfl) hP hD hS hA rfl (by decide) rfl (by decide) (by decide) rfl rfl rfl rfl hl.1 rfl (Nat.le_of_ble_eq_true rfl) dL_law_1099 ⟨by show n + 1 + 0 + 0 ≤ 601024; omega, by show sl + 6 + 0 + 0 ≤ 7293034; omega⟩ (fun v w1 H locs hq hP hD hS hz => ?_)
      obtain ⟨rfl, rfl⟩ := hq
      have hP : va_P D vwCl (lwW o fo q h a0 a1 a2 a3 a4 a5 g b0 b1 mo z1 z2 z3 z4 z5 z6 z7 z8 z9 cI cL fi la B G pr (nI N) hs cs mf ml M td lf laid piled prs 1) H := hP
      have hD : va_D (fun q : Nat => s.heap.size ≤ q) (lwW o fo q h a0 a1 a2 a3 a4 a5 g b0 b1 mo z1 z2 z3 z4 z5 z6 z7 z8 z9 cI cL fi la B G pr (nI N) hs cs mf ml M td lf laid piled prs 1) := hD
      refine W.eq (g2 := F0 m 1102 ls [.int 1]) rfl ?_
      refine lv_iload hx hb dL_law_1102 (lv_at hl 1 rfl) ?_
      refine lv_icmp_eq (tgt := 1109) hx hb dL_law_1104 (by decide) (fun _ => ?_) (fun c9 => absurd (((iv_ent I x1).elim (fun z => absurd z.1 hne) (fun z => z.1.symm))) c9)
      refine lv_iload hx hb dL_law_1109 (lv_at hl 1 rfl) ?_
      refine lv_if_ne (tgt := 1126) hx hb dL_law_1111 (by decide) (fun _ => ?_) (fun c9 => absurd c9 hne)
      refine lv_goto (tgt := 1291) hx hb dL_law_1126 (by decide) ?_
      refine W.widen (k := n + 6) (n := sl + 36) (by omega) (by omega) ?_
      exact K _ H locs ls ⟨_, _, _, _, _, _, _, _, _, _, _, _, _, _, _, _, _, _, _, rfl, rfl, I, hg, hpr⟩ hP hD hS (lv_sub hl [2, 3, 4, 5, 6] rfl)
    · exact ((iv_ent I x1).elim (fun z => hne z.1) (fun z => z.2 (by rw [hxk2]; exact ent_mk hk2 hk3 hk4))).elim

set_option maxHeartbeats 4000000 in
set_option maxRecDepth 100000 in
theorem law_noted {p : Program} {l : Launch} {ev : Env} {s : State} {m : MethodId} {b L : Nat} {xs : Nat → Int32} {below : List Frame} {meth : Method} {cd : Code} {Q : State → Prop} {o q h a0 a1 a2 a3 a4 a5 g b0 b1 mo z1 z2 z3 z4 z5 z6 z7 z8 z9 : Nat} {D : va_G} {cI cL : ClassId} {i n sl : Nat} (C : LC p l s m meth cd b L xs D cI cL) (hi : i + 4 ≤ L) (hn : n + 6 ≤ 600000) (hsl : sl + 36 ≤ 7000000) (K : LK p l ev s m b below meth cd Q o q h a0 a1 a2 a3 a4 a5 g b0 b1 mo z1 z2 z3 z4 z5 z6 z7 z8 z9 D cI cL i 1291 (n + 6) (sl + 36)) : LK p l ev s m b below meth cd Q o q h a0 a1 a2 a3 a4 a5 g b0 b1 mo z1 z2 z3 z4 z5 z6 z7 z8 z9 D cI cL i 1129 n sl := by
  obtain ⟨hx, hb, hml, hown, hts, hX, hbl, hK, hE, hfl, hL⟩ := C
  have hA : ∀ q : Nat, s.heap.size ≤ q → (fun q : Nat => s.heap.size ≤ q) q := fun _ h => h
  have hbA : ¬ (fun q : Nat => s.heap.size ≤ q) b := Nat.not_le.mpr hbl
  rintro w H locs ls ⟨fo, fi, la, B, G, pr, N, hs, cs, mf, ml, M, td, lf, laid, piled, prs, thr, col, rfl, rfl, I, hg, hpr⟩ hP hD hS hl
  have hN1 := I.1
  have hN2 := I.2.1
  have hNN : G.2.2.1 = nI N := I.2.2.2.2.2.2.2.2
  have hT := I.2.2.2.1
  have hN5 : N < 65 := by omega
  obtain ⟨x1, hx1⟩ : ∃ z, z = xs (nI (i + 1)).toNatClampNeg := ⟨_, rfl⟩
  refine lv_aload_n hx hb dL_law_1129 rfl (lv_at hl 3 rfl) ?_
  refine lv_aload_n hx hb dL_law_1130 rfl (lv_at hl 4 rfl) ?_
  refine lv_iload hx hb dL_law_1131 (lv_at hl 0 rfl) ?_
  refine lv_iconst (v := 1) hx hb dL_law_1133 (by decide) ?_
  refine lv_iadd hx hb dL_law_1134 ?_
  refine pq_top (nI (i + 1)) (nI_1 _) ?_
  refine va_sld hx hb hX hbl hbA hS (vp_in_nI (by omega) (by omega)) dL_law_1135 ?_
  rw [← hx1]
  refine lv_aload_n hx hb dL_law_1136 rfl (lv_at hl 1 rfl) ?_
  refine pq_callSW (wr := mdW mo z1 z2 z3 z4 z5 z6 z7 z8 z9 cI (nI N) hs cs mf ml M td lf laid piled prs thr) (own := RL) (nL := 9) [0, 1, 2, 3, 4, 5, 6, 7, 8, 9, 10, 11] [12, 13, 14, 15, 16, 17, 18, 19, 20, 21] [.ref q, .int x1, .ref o] (mL_noted l D cI cL o fo q h a0 a1 a2 a3 a4 a5 g b0 b1 fi la B G pr N hfl hNN hN1 hN2 x1) ⟨hx, hb, hml, hown, hts⟩ (vx_cwSW 3 hts gL_law_L_noted rfl rfl rfl (by decide +kernel) ⟨Nat.le_of_ble_eq_true rfl, Nat.le_of_ble_eq_true rfl⟩) pq_blL (hE.call hD hS hA [0, 1, 2, 3, 4, 5, 6, 7, 8, 9, 10, 11] rfl) hK hP hD hS hA rfl (by decide) rfl (by decide) (by decide) rfl hl.1 rfl (Nat.le_of_ble_eq_true rfl) dL_law_1137 ⟨by show n + 1 ≤ 601024; omega, by show sl + 6 ≤ 7293034; omega⟩ (fun v w1 H locs hq hP hD hS hz => ?_)
  rcases hq with ⟨r, wc, hpost, rfl, rfl⟩ | ⟨hne, rfl, rfl⟩
  · obtain ⟨k, hxk, hk, hk9, hv, rfl, hc0⟩ := hpost
    have hr := vi_eq hv
    have hP : va_P D vwCl (lwW o (vp_updL fo 0 r.toInt64) q h a0 a1 a2 a3 a4 a5 g b0 b1 mo z1 z2 z3 z4 z5 z6 z7 z8 z9 cI cL fi la B G pr (nI N) hs cs mf ml M td lf laid piled prs thr) H := hP.sub [10, 11, 12, 13, 14, 15, 16, 17, 18, 19, 20, 21, 0, 1, 2, 3, 4, 5, 6, 7, 8, 9] rfl
    have hD : va_D (fun q : Nat => s.heap.size ≤ q) (lwW o (vp_updL fo 0 r.toInt64) q h a0 a1 a2 a3 a4 a5 g b0 b1 mo z1 z2 z3 z4 z5 z6 z7 z8 z9 cI cL fi la B G pr (nI N) hs cs mf ml M td lf laid piled prs thr) := hD.sub [10, 11, 12, 13, 14, 15, 16, 17, 18, 19, 20, 21, 0, 1, 2, 3, 4, 5, 6, 7, 8, 9] (by decide) rfl
    refine lv_istore (lv' := [(5, .int 0), (4, .int (nI i)), (3, .ref o), (2, .ref mo), (1, .ref q), (0, .ref b)]) hx hb dL_law_1140 hl (by decide) rfl (fun ls hl => ?_)
    refine lv_aload_n hx hb dL_law_1142 rfl (lv_at hl 3 rfl) ?_
    refine lv_aload_n hx hb dL_law_1143 rfl (lv_at hl 5 rfl) ?_
    refine lv_iload hx hb dL_law_1144 (lv_at hl 1 rfl) ?_
    refine lv_iconst (v := 1) hx hb dL_law_1146 (by decide) ?_
    refine lv_iadd hx hb dL_law_1147 ?_
    refine pq_top (nI (i + 1)) (nI_1 _) ?_
    refine va_sld hx hb hX hbl hbA hS (vp_in_nI (by omega) (by omega)) dL_law_1148 ?_
    rw [← hx1]
    refine pq_callV (rest := []) (wr := (o, .inl (cL, 1, .inr (.inl (vp_updL fo 0 r.toInt64)))) :: ppW q h a0 a1 a2 a3 a4 a5 g b0 b1 cI fi la B G pr) (own := RL) (nL := 9) (q0 := 12) (ci := 3) [12, 13, 14, 15, 16, 17, 18, 19, 20, 21] [0, 1, 2, 3, 4, 5, 6, 7, 8, 9, 10, 11] [.int x1] (mX3_noted l D cI mo z1 z2 z3 z4 z5 z6 z7 z8 z9 (nI N) hs cs mf ml M td lf laid piled prs thr x1) ⟨hx, hb, hml, hown, hts⟩ (cwV 1 hts gL_law_X3_noted rfl rfl rfl (by decide +kernel) ⟨Nat.le_of_ble_eq_true rfl, Nat.le_of_ble_eq_true rfl⟩) pq_bl0 (fun _ _ _ => trivial) (hK.sub [0] rfl) hP hD hS hA rfl (by decide) rfl (by decide) (by decide) rfl rfl rfl rfl hl.1 rfl (Nat.le_of_ble_eq_true rfl) dL_law_1149 ⟨by show n + 1 + 0 ≤ 601024; omega, by show sl + 6 + 0 ≤ 7293034; omega⟩ (fun v w1 H locs hq hP hD hS hz => ?_)
    rcases hq with ⟨hm, rfl, rfl⟩ | ⟨k2, hxk2, hk2, hk3, hk4, rfl, rfl⟩
    · exact (hm ((iv_ent I x1).elim (fun z => z.2) (fun z => absurd (z.1.symm.trans hc0) c_ne1))).elim
    · skip
      have hP : va_P D vwCl (lwW o (vp_updL fo 0 r.toInt64) q h a0 a1 a2 a3 a4 a5 g b0 b1 mo z1 z2 z3 z4 z5 z6 z7 z8 z9 cI cL fi la B G pr (nI N) hs cs mf ml M td lf laid piled prs 0) H := hP
      have hD : va_D (fun q : Nat => s.heap.size ≤ q) (lwW o (vp_updL fo 0 r.toInt64) q h a0 a1 a2 a3 a4 a5 g b0 b1 mo z1 z2 z3 z4 z5 z6 z7 z8 z9 cI cL fi la B G pr (nI N) hs cs mf ml M td lf laid piled prs 0) := hD
      refine W.eq (g2 := F0 m 1152 ls [.int (M.2.2.2.1 k2)]) rfl ?_
      refine lv_istore (lv' := [(6, .int (M.2.2.2.1 k2)), (5, .int 0), (4, .int (nI i)), (3, .ref o), (2, .ref mo), (1, .ref q), (0, .ref b)]) hx hb dL_law_1152 hl (by decide) rfl (fun ls hl => ?_)
      refine lv_aload_n hx hb dL_law_1154 rfl (lv_at hl 4 rfl) ?_
      refine pq_callV (rest := []) (wr := (o, .inl (cL, 1, .inr (.inl (vp_updL fo 0 r.toInt64)))) :: ppW q h a0 a1 a2 a3 a4 a5 g b0 b1 cI fi la B G pr) (own := RL) (nL := 9) (q0 := 12) (ci := 3) [12, 13, 14, 15, 16, 17, 18, 19, 20, 21] [0, 1, 2, 3, 4, 5, 6, 7, 8, 9, 10, 11] [] (mX3_thrown l D cI mo z1 z2 z3 z4 z5 z6 z7 z8 z9 (nI N) hs cs mf ml M td lf laid piled prs 0) ⟨hx, hb, hml, hown, hts⟩ (cwV 0 hts gL_law_X3_thrown rfl rfl rfl (by decide +kernel) ⟨Nat.le_of_ble_eq_true rfl, Nat.le_of_ble_eq_true rfl⟩) pq_bl0 (fun _ _ _ => trivial) (hK.sub [0] rfl) hP hD hS hA rfl (by decide) rfl (by decide) (by decide) rfl rfl rfl rfl hl.1 rfl (Nat.le_of_ble_eq_true rfl) dL_law_1155 ⟨by show n + 1 + 0 + 0 ≤ 601024; omega, by show sl + 6 + 0 + 0 ≤ 7293034; omega⟩ (fun v w1 H locs hq hP hD hS hz => ?_)
      obtain ⟨rfl, rfl⟩ := hq
      have hP : va_P D vwCl (lwW o (vp_updL fo 0 r.toInt64) q h a0 a1 a2 a3 a4 a5 g b0 b1 mo z1 z2 z3 z4 z5 z6 z7 z8 z9 cI cL fi la B G pr (nI N) hs cs mf ml M td lf laid piled prs 0) H := hP
      have hD : va_D (fun q : Nat => s.heap.size ≤ q) (lwW o (vp_updL fo 0 r.toInt64) q h a0 a1 a2 a3 a4 a5 g b0 b1 mo z1 z2 z3 z4 z5 z6 z7 z8 z9 cI cL fi la B G pr (nI N) hs cs mf ml M td lf laid piled prs 0) := hD
      refine W.eq (g2 := F0 m 1158 ls [.int 0]) rfl ?_
      refine lv_iload hx hb dL_law_1158 (lv_at hl 1 rfl) ?_
      refine lv_icmp_eq (tgt := 1165) hx hb dL_law_1160 (by decide) (fun _ => ?_) (fun c9 => absurd rfl c9)
      refine lv_iload hx hb dL_law_1165 (lv_at hl 1 rfl) ?_
      refine lv_if_ne (tgt := 1182) hx hb dL_law_1167 (by decide) (fun c9 => absurd rfl c9) (fun _ => ?_)
      refine lv_aload_n hx hb dL_law_1170 rfl (lv_at hl 3 rfl) ?_
      refine lv_iconst (v := 0) hx hb dL_law_1171 (by decide) ?_
      refine pq_lald hx hb hK hP 0 1 rfl rfl dL_law_1172 ?_
      have hkk : k = k2 := nI_inj (by omega) (by omega) (hxk.symm.trans hxk2)
      subst hkk
      obtain ⟨e0, e1, e2, e3, e4, e5⟩ := iv_at I hk2 hk3 hk4
      have hans := hr.trans e5.symm
      have I2 := I
      have hg2 := hg
      have hpr2 := hpr
      rw [updL_0, hans]
      refine lv_iload hx hb dL_law_1173 (lv_at hl 0 rfl) ?_
      refine lv_i2l hx hb dL_law_1175 rfl ?_
      refine W.lcmp hx hb dL_law_1176 ?_
      rw [lg_cmp_s]
      refine lv_if_eq (tgt := 1182) hx hb dL_law_1177 (by decide) (fun _ => ?_) (fun c9 => absurd rfl c9)
      refine lv_goto (tgt := 1291) hx hb dL_law_1182 (by decide) ?_
      refine W.widen (k := n + 6) (n := sl + 36) (by omega) (by omega) ?_
      exact K _ H locs ls ⟨_, _, _, _, _, _, _, _, _, _, _, _, _, _, _, _, _, _, _, rfl, rfl, I2, hg2, hpr2⟩ hP hD hS (lv_sub hl [2, 3, 4, 5, 6] rfl)
  · skip
    have hP : va_P D vwCl (lwW o fo q h a0 a1 a2 a3 a4 a5 g b0 b1 mo z1 z2 z3 z4 z5 z6 z7 z8 z9 cI cL fi la B G pr (nI N) hs cs mf ml M td lf laid piled prs thr) H := hP.sub [10, 11, 12, 13, 14, 15, 16, 17, 18, 19, 20, 21, 0, 1, 2, 3, 4, 5, 6, 7, 8, 9] rfl
    have hD : va_D (fun q : Nat => s.heap.size ≤ q) (lwW o fo q h a0 a1 a2 a3 a4 a5 g b0 b1 mo z1 z2 z3 z4 z5 z6 z7 z8 z9 cI cL fi la B G pr (nI N) hs cs mf ml M td lf laid piled prs thr) := hD.sub [10, 11, 12, 13, 14, 15, 16, 17, 18, 19, 20, 21, 0, 1, 2, 3, 4, 5, 6, 7, 8, 9] (by decide) rfl
    refine lv_istore (lv' := [(5, .int (cEnt la x1)), (4, .int (nI i)), (3, .ref o), (2, .ref mo), (1, .ref q), (0, .ref b)]) hx hb dL_law_1140 hl (by decide) rfl (fun ls hl => ?_)
    refine lv_aload_n hx hb dL_law_1142 rfl (lv_at hl 3 rfl) ?_
    refine lv_aload_n hx hb dL_law_1143 rfl (lv_at hl 5 rfl) ?_
    refine lv_iload hx hb dL_law_1144 (lv_at hl 1 rfl) ?_
    refine lv_iconst (v := 1) hx hb dL_law_1146 (by decide) ?_
    refine lv_iadd hx hb dL_law_1147 ?_
    refine pq_top (nI (i + 1)) (nI_1 _) ?_
    refine va_sld hx hb hX hbl hbA hS (vp_in_nI (by omega) (by omega)) dL_law_1148 ?_
    rw [← hx1]
    refine pq_callV (rest := []) (wr := (o, .inl (cL, 1, .inr (.inl fo))) :: ppW q h a0 a1 a2 a3 a4 a5 g b0 b1 cI fi la B G pr) (own := RL) (nL := 9) (q0 := 12) (ci := 3) [12, 13, 14, 15, 16, 17, 18, 19, 20, 21] [0, 1, 2, 3, 4, 5, 6, 7, 8, 9, 10, 11] [.int x1] (mX3_noted l D cI mo z1 z2 z3 z4 z5 z6 z7 z8 z9 (nI N) hs cs mf ml M td lf laid piled prs thr x1) ⟨hx, hb, hml, hown, hts⟩ (cwV 1 hts gL_law_X3_noted rfl rfl rfl (by decide +kernel) ⟨Nat.le_of_ble_eq_true rfl, Nat.le_of_ble_eq_true rfl⟩) pq_bl0 (fun _ _ _ => trivial) (hK.sub [0] rfl) hP hD hS hA rfl (by decide) rfl (by decide) (by decide) rfl rfl rfl rfl hl.1 rfl (Nat.le_of_ble_eq_true rfl) dL_law_1149 ⟨by show n + 1 + 0 ≤ 601024; omega, by show sl + 6 + 0 ≤ 7293034; omega⟩ (fun v w1 H locs hq hP hD hS hz => ?_)
    rcases hq with ⟨hm, rfl, rfl⟩ | ⟨k2, hxk2, hk2, hk3, hk4, rfl, rfl⟩
    · skip
      have hP : va_P D vwCl (lwW o fo q h a0 a1 a2 a3 a4 a5 g b0 b1 mo z1 z2 z3 z4 z5 z6 z7 z8 z9 cI cL fi la B G pr (nI N) hs cs mf ml M td lf laid piled prs 1) H := hP
      have hD : va_D (fun q : Nat => s.heap.size ≤ q) (lwW o fo q h a0 a1 a2 a3 a4 a5 g b0 b1 mo z1 z2 z3 z4 z5 z6 z7 z8 z9 cI cL fi la B G pr (nI N) hs cs mf ml M td lf laid piled prs 1) := hD
      refine W.eq (g2 := F0 m 1152 ls [.int 0]) rfl ?_
      refine lv_istore (lv' := [(6, .int 0), (5, .int (cEnt la x1)), (4, .int (nI i)), (3, .ref o), (2, .ref mo), (1, .ref q), (0, .ref b)]) hx hb dL_law_1152 hl (by decide) rfl (fun ls hl => ?_)
      refine lv_aload_n hx hb dL_law_1154 rfl (lv_at hl 4 rfl) ?_
      refine pq_callV (rest := []) (wr := (o, .inl (cL, 1, .inr (.inl fo))) :: ppW q h a0 a1 a2 a3 a4 a5 g b0 b1 cI fi la B G pr) (own := RL) (nL := 9) (q0 := 12) (ci := 3) [12, 13, 14, 15, 16, 17, 18, 19, 20, 21] [0, 1, 2, 3, 4, 5, 6, 7, 8, 9, 10, 11] [] (mX3_thrown l D cI mo z1 z2 z3 z4 z5 z6 z7 z8 z9 (nI N) hs cs mf ml M td lf laid piled prs 1) ⟨hx, hb, hml, hown, hts⟩ (cwV 0 hts gL_law_X3_thrown rfl rfl rfl (by decide +kernel) ⟨Nat.le_of_ble_eq_true rfl, Nat.le_of_ble_eq_true rfl⟩) pq_bl0 (fun _ _ _ => trivial) (hK.sub [0] rfl) hP hD hS hA rfl (by decide) rfl (by decide) (by decide) rfl rfl rfl rfl hl.1 rfl (Nat.le_of_ble_eq_true rfl) dL_law_1155 ⟨by show n + 1 + 0 + 0 ≤ 601024; omega, by show sl + 6 + 0 + 0 ≤ 7293034; omega⟩ (fun v w1 H locs hq hP hD hS hz => ?_)
      obtain ⟨rfl, rfl⟩ := hq
      have hP : va_P D vwCl (lwW o fo q h a0 a1 a2 a3 a4 a5 g b0 b1 mo z1 z2 z3 z4 z5 z6 z7 z8 z9 cI cL fi la B G pr (nI N) hs cs mf ml M td lf laid piled prs 1) H := hP
      have hD : va_D (fun q : Nat => s.heap.size ≤ q) (lwW o fo q h a0 a1 a2 a3 a4 a5 g b0 b1 mo z1 z2 z3 z4 z5 z6 z7 z8 z9 cI cL fi la B G pr (nI N) hs cs mf ml M td lf laid piled prs 1) := hD
      refine W.eq (g2 := F0 m 1158 ls [.int 1]) rfl ?_
      refine lv_iload hx hb dL_law_1158 (lv_at hl 1 rfl) ?_
      refine lv_icmp_eq (tgt := 1165) hx hb dL_law_1160 (by decide) (fun _ => ?_) (fun c9 => absurd (((iv_ent I x1).elim (fun z => absurd z.1 hne) (fun z => z.1.symm))) c9)
      refine lv_iload hx hb dL_law_1165 (lv_at hl 1 rfl) ?_
      refine lv_if_ne (tgt := 1182) hx hb dL_law_1167 (by decide) (fun _ => ?_) (fun c9 => absurd c9 hne)
      refine lv_goto (tgt := 1291) hx hb dL_law_1182 (by decide) ?_
      refine W.widen (k := n + 6) (n := sl + 36) (by omega) (by omega) ?_
      exact K _ H locs ls ⟨_, _, _, _, _, _, _, _, _, _, _, _, _, _, _, _, _, _, _, rfl, rfl, I, hg, hpr⟩ hP hD hS (lv_sub hl [2, 3, 4, 5, 6] rfl)
    · exact ((iv_ent I x1).elim (fun z => hne z.1) (fun z => z.2 (by rw [hxk2]; exact ent_mk hk2 hk3 hk4))).elim
