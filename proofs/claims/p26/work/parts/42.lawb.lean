/-! the entries on the way to a column -/
theorem nCnt_c {h g : Nat → Nat} {m f : Nat} : ∀ {n : Nat}, (∀ k, f ≤ k → k < f + n → h k = g k) → nCnt h m f n = nCnt g m f n := by
  intro n
  induction n with
  | zero => intro _; rfl
  | succ n ih => intro q; rw [nCnt, nCnt, ih (fun k a b => q k a (by omega)), q (f + n) (by omega) (by omega)]
theorem Tl_b {h : Nat → Nat} {lo n lw mn mo b : Nat} (T : Tl h lo n lw mn mo) (hb : ∀ k, lo ≤ k → k < lo + n → h k ≤ b) : mo ≤ b ∧ mn ≤ n ∧ lw ≤ mo := by
  obtain ⟨t1, t2, t3, t4, t5, t6⟩ := T
  refine ⟨?_, by rw [t3]; exact nCnt_le _, t2⟩
  by_cases q : n = 0
  · have := t6 q; omega
  · obtain ⟨k, i, j, e⟩ := t4 q
    have := hb k i j
    omega
/-- an entry against its columns -/
theorem ent_cmp {hs w : Nat → Nat} {lo n s m g L lw mn mo : Nat} (hn : n ≠ 0) (T : Tl w lo n s m g) (S : Tl hs lo n lw mn mo) (hw : ∀ k, lo ≤ k → k < lo + n → w k ≤ g ∧ hs k = min (w k) L) :
    mo ≤ g ∧ nSum hs lo 0 n ≤ nSum w lo 0 n ∧ s ≤ g ∧ 1 ≤ m ∧ m ≤ n ∧ (g ≤ L → g = mo ∧ nSum w lo 0 n = nSum hs lo 0 n ∧ m = mn ∧ s = lw) := by
  have T0 := T
  obtain ⟨t1, t2, t3, t4, t5, t6⟩ := T
  obtain ⟨k, i, j, e⟩ := S.2.2.2.1 hn
  obtain ⟨k', i', j', e'⟩ := t4 hn
  refine ⟨by have := hw k i j; omega, nSum_mh (fun k a b => by have := hw k a b; omega), t2, by rw [t3]; exact nCnt_p i' j' e', by rw [t3]; exact nCnt_le _, fun hL => ?_⟩
  have hq : ∀ k, lo ≤ k → k < lo + n → hs k = w k := fun k a b => by have := hw k a b; omega
  have T1 : Tl hs lo n s m g := by
    refine ⟨fun k a b => by rw [hq k a b]; exact t1 k a b, t2, ?_, fun z => ?_, t5.imp id (fun ⟨k, a, b, z⟩ => ⟨k, a, b, by rw [hq k a b]; exact z⟩), t6⟩
    · rw [t3]
      exact nCnt_c (fun k a b => (hq k a b).symm)
    · obtain ⟨k, a, b, z⟩ := t4 z
      exact ⟨k, a, b, by rw [hq k a b]; exact z⟩
  obtain ⟨u1, u2, u3⟩ := Tl_un T1 S hn
  exact ⟨u3, nSum_c (fun k a b => by rw [hq k a b]), u2, u1⟩
theorem ent_leaf {w hs : Nat → Nat} {x s m g L : Nat} (T : Tl w x 1 s m g) (hw : hs x = min (w x) L) : hs x = min g L := by
  obtain ⟨k, i, j, e⟩ := T.2.2.2.1 (by decide)
  have : k = x := by omega
  subst this
  omega

set_option maxRecDepth 100000 in
theorem sp_n : ∀ N, N < 65 → ∀ e, e < 128 → 1 ≤ e → shi N e ≤ N := by decide +kernel

theorem kd_sp {N e : Nat} (hN : N < 65) (hXE : Ex N e) (hp : Pt N e) : (100 * slo N (2 * e) + (shi N (2 * e) - 1)) / 100 = slo N e ∧ (100 * slo N (2 * e) + (shi N (2 * e) - 1)) % 100 = shi N (2 * e) - 1 ∧ 100 * slo N (2 * e + 1) + (shi N (2 * e + 1) - 1) = 100 * (shi N (2 * e) - 1 + 1) + (shi N e - 1) ∧ slo N e ≤ shi N (2 * e) - 1 ∧ shi N (2 * e) - 1 < shi N e - 1 := by
  obtain ⟨E0, E1, s1, s2, s3, s4, s5⟩ := Ex_kids hN hXE hp
  obtain ⟨q1, q2, q3⟩ := sp_in N hN e hXE.2.1 hXE.1
  omega

set_option maxHeartbeats 4000000 in
set_option maxRecDepth 100000 in
theorem mL_isEntrySo (l : Launch) (D : va_G) (cI : ClassId) (q h a0 a1 a2 a3 a4 a5 g b0 b1 : Nat) {N : Nat} {hs cs : Nat → Nat} {vis tot cal : Nat} {fi la : Nat → Int32} {B : BK} {G : GK} {pr : Int32} (I : J N hs cs vis tot cal fi la B G pr) (ht : tot ≤ 100000) {kx : Nat} (hkx : kx < N) : pq_M l yL_isEntrySo wsL_isEntrySo 9 165 0 0 D [(cI, .int)] pq_Ev (ppW q h a0 a1 a2 a3 a4 a5 g b0 b1 cI fi la B G pr) [.ref q, .int (nI kx)] (fun v w1 => v = some (.int 1) ∧ w1 = (ppW q h a0 a1 a2 a3 a4 a5 g b0 b1 cI fi la B G pr)) := by
  refine pq_enter (cc := cL_isEntrySo) (maxL := 14) (ret := (some .boolean)) (by decide) rfl (Nat.le_of_ble_eq_true rfl) ?_
  intro p ev s m args below meth cd A ls Q H locs hx hb hr hml hts hown hlocks hnm hK hP hD hS hA hE hl hQ
  have hl : lv_has ls 14 [(0, .ref q), (1, .int (nI kx))] := hl
  have hP : va_P D vwCl (ppW q h a0 a1 a2 a3 a4 a5 g b0 b1 cI fi la B G pr) H := hP
  have hD : va_D A (ppW q h a0 a1 a2 a3 a4 a5 g b0 b1 cI fi la B G pr) := hD
  have hN1 := I.1
  have hN2 := I.2.1
  obtain ⟨r1, r2, r3⟩ := j_root I
  refine lv_iconst (v := 1) hx hb dL_isEntrySo_0 (by decide) ?_
  refine lv_istore_n (lv' := [(2, .int 1), (0, .ref q), (1, .int (nI kx))]) hx hb dL_isEntrySo_1 rfl hl (by decide) rfl (fun ls hl => ?_)
  refine lv_iconst (v := 1) hx hb dL_isEntrySo_2 (by decide) ?_
  refine lv_istore_n (lv' := [(3, .int 1), (2, .int 1), (0, .ref q), (1, .int (nI kx))]) hx hb dL_isEntrySo_3 rfl hl (by decide) rfl (fun ls hl => ?_)
  refine lv_iconst (v := 1) hx hb dL_isEntrySo_4 (by decide) ?_
  refine lv_istore (lv' := [(4, .int 1), (3, .int 1), (2, .int 1), (0, .ref q), (1, .int (nI kx))]) hx hb dL_isEntrySo_5 hl (by decide) rfl (fun ls hl => ?_)
  refine lv_aload_n hx hb dL_isEntrySo_7 rfl (lv_at hl 3 rfl) ?_
  refine lv_iconst (v := 1) hx hb dL_isEntrySo_8 (by decide) ?_
  refine pq_callV (wr := []) (own := RL) (nL := 14) (q0 := 0) (ci := 2) [0, 1, 2, 3, 4, 5, 6, 7, 8, 9, 10] [] [.int 1] (f_greatest l D cI q h a0 a1 a2 a3 a4 a5 g b0 b1 I (ke := 1) (Ex_1 hN1) (x := (nMax hs 0 N)) r1) ⟨hx, hb, hml, hown, hts⟩ (cwV 1 hts gL_isEntrySo_X2_greatest rfl rfl rfl (by decide +kernel) ⟨by dsimp only [pq_R]; omega, by dsimp only [pq_R]; omega⟩) pq_blE (hE.call hD hS hA [0, 1, 2, 3, 4, 5, 6, 7, 8, 9, 10] rfl) hK hP hD hS hA rfl (by decide) rfl (by decide) (by decide) rfl rfl rfl rfl hl.1 rfl (Nat.le_of_ble_eq_true rfl) dL_isEntrySo_9 ⟨by dsimp only [pq_R]; omega, by dsimp only [pq_R]; omega⟩ (fun v w1 H locs hq hP hD hS hz => ?_)
  obtain ⟨rfl, rfl⟩ := hq
  have hP : va_P D vwCl (ppW q h a0 a1 a2 a3 a4 a5 g b0 b1 cI fi la B G pr) H := hP
  have hD : va_D A (ppW q h a0 a1 a2 a3 a4 a5 g b0 b1 cI fi la B G pr) := hD
  refine W.eq (g2 := F0 m 12 ls [.int (nI (nMax hs 0 N))]) rfl ?_
  refine lv_istore (lv' := [(5, .int (nI (nMax hs 0 N))), (4, .int 1), (3, .int 1), (2, .int 1), (0, .ref q), (1, .int (nI kx))]) hx hb dL_isEntrySo_12 hl (by decide) rfl (fun ls hl => ?_)
  refine lv_iconst (v := 1) hx hb dL_isEntrySo_14 (by decide) ?_
  refine lv_istore (lv' := [(6, .int 1), (5, .int (nI (nMax hs 0 N))), (4, .int 1), (3, .int 1), (2, .int 1), (0, .ref q), (1, .int (nI kx))]) hx hb dL_isEntrySo_15 hl (by decide) rfl (fun ls hl => ?_)
  have LP : ∀ (n : Nat) (e L tr : Nat), 128 - e < n → Pw N hs (row B) kx e L → tr ≤ 1 → (tr = 1 → (e = 1 ∨ (2 ≤ e ∧ B.1 (e / 2) = nI L))) → (e = 1 → B.1 1 = nI L) → ∀ (H : Heap) (locs : List Loc) (ls : Array Slot), va_P D vwCl (ppW q h a0 a1 a2 a3 a4 a5 g b0 b1 cI fi la B G pr) H → va_D A (ppW q h a0 a1 a2 a3 a4 a5 g b0 b1 cI fi la B G pr) → va_S A s.heap H locs → lv_has ls 14 [(6, .int 1), (5, .int (nI L)), (4, .int 1), (3, .int (nI tr)), (2, .int (nI e)), (0, .ref q), (1, .int (nI kx))] → W p l ev (pq_R 9 165 0 0) s m args below meth cd H locs 0 0 Q (F0 m 17 ls []) := by
    intro n
    induction n with
    | zero => intro e L tr h9; exact absurd h9 (Nat.not_lt_zero _)
    | succ n ihLP =>
      intro e L tr hmeas hPw htr hte h1e H locs ls hP hD hS hl
      obtain ⟨ge, se, me, ue, wv, hge, hse, hme, hue, huv, hge2, hwv, hTl⟩ := pw_ent (by omega) hPw I.2.2.2.2.1 (fun k hk => (I.2.2.2.2.2.2.1 k hk).1)
      have hXE : Ex N e := by obtain ⟨d, p1, p2, p3, p4⟩ := hPw; exact p3
      obtain ⟨q1, q2, q3⟩ := sp_in N (by omega) e hXE.2.1 hXE.1
      have hsN := sp_n N (by omega) e hXE.2.1 hXE.1
      have hE2 := hXE.2.2
      have hE3 := hXE.2.1
      have hE4 := hXE.1
      have hkin : slo N e ≤ kx ∧ kx < shi N e := by obtain ⟨d, p1, p2, p3, p4, p5, p6⟩ := hPw; exact ⟨p4, p5⟩
      have hL : L ≤ 1000 := by obtain ⟨d, p1, p2, p3, p4, p5, p6, p7⟩ := hPw; exact p6
      have hsb : se ≤ ge := hTl.2.1
      refine lv_iload hx hb dL_isEntrySo_17 (lv_at hl 0 rfl) ?_
      refine lv_if_eq (tgt := 487) hx hb dL_isEntrySo_19 (by decide) (fun c9 => absurd c9 (by decide)) (fun _ => ?_)
      refine lv_iload hx hb dL_isEntrySo_22 (lv_at hl 2 rfl) ?_
      refine lv_if_eq (tgt := 487) hx hb dL_isEntrySo_24 (by decide) (fun c9 => absurd c9 (by decide)) (fun _ => ?_)
      refine lv_aload_n hx hb dL_isEntrySo_27 rfl (lv_at hl 5 rfl) ?_
      refine lv_iload_n hx hb dL_isEntrySo_28 rfl (lv_at hl 4 rfl) ?_
      refine pq_callV (wr := []) (own := RL) (nL := 14) (q0 := 0) (ci := 2) [0, 1, 2, 3, 4, 5, 6, 7, 8, 9, 10] [] [.int (nI e)] (f_spanOf l D cI q h a0 a1 a2 a3 a4 a5 g b0 b1 I (ke := e) hXE) ⟨hx, hb, hml, hown, hts⟩ (cwV 1 hts gL_isEntrySo_X2_spanOf rfl rfl rfl (by decide +kernel) ⟨by dsimp only [pq_R]; omega, by dsimp only [pq_R]; omega⟩) pq_blE (hE.call hD hS hA [0, 1, 2, 3, 4, 5, 6, 7, 8, 9, 10] rfl) hK hP hD hS hA rfl (by decide) rfl (by decide) (by decide) rfl rfl rfl rfl hl.1 rfl (Nat.le_of_ble_eq_true rfl) dL_isEntrySo_29 ⟨by dsimp only [pq_R]; omega, by dsimp only [pq_R]; omega⟩ (fun v w1 H locs hq hP hD hS hz => ?_)
      obtain ⟨rfl, rfl⟩ := hq
      have hP : va_P D vwCl (ppW q h a0 a1 a2 a3 a4 a5 g b0 b1 cI fi la B G pr) H := hP
      have hD : va_D A (ppW q h a0 a1 a2 a3 a4 a5 g b0 b1 cI fi la B G pr) := hD
      refine W.eq (g2 := F0 m 32 ls [.int (nI (100 * slo N e + (shi N e - 1)))]) rfl ?_
      refine lv_bipush (v := 100) hx hb dL_isEntrySo_32 (by decide) ?_
      refine lv_idiv hx hb dL_isEntrySo_34 (by decide) ?_
      refine pq_top (nI ((100 * slo N e + (shi N e - 1)) / 100)) (pk_div (d := 100) (by omega) (by decide) (by decide)) ?_
      refine pq_top (nI (slo N e)) (congrArg nI (by omega)) ?_
      refine lv_istore (lv' := [(7, .int (nI (slo N e))), (6, .int 1), (5, .int (nI L)), (4, .int 1), (3, .int (nI tr)), (2, .int (nI e)), (0, .ref q), (1, .int (nI kx))]) hx hb dL_isEntrySo_35 hl (by decide) rfl (fun ls hl => ?_)
      refine lv_aload_n hx hb dL_isEntrySo_37 rfl (lv_at hl 6 rfl) ?_
      refine lv_iload_n hx hb dL_isEntrySo_38 rfl (lv_at hl 5 rfl) ?_
      refine pq_callV (wr := []) (own := RL) (nL := 14) (q0 := 0) (ci := 2) [0, 1, 2, 3, 4, 5, 6, 7, 8, 9, 10] [] [.int (nI e)] (f_spanOf l D cI q h a0 a1 a2 a3 a4 a5 g b0 b1 I (ke := e) hXE) ⟨hx, hb, hml, hown, hts⟩ (cwV 1 hts gL_isEntrySo_X2_spanOf rfl rfl rfl (by decide +kernel) ⟨by dsimp only [pq_R]; omega, by dsimp only [pq_R]; omega⟩) pq_blE (hE.call hD hS hA [0, 1, 2, 3, 4, 5, 6, 7, 8, 9, 10] rfl) hK hP hD hS hA rfl (by decide) rfl (by decide) (by decide) rfl rfl rfl rfl hl.1 rfl (Nat.le_of_ble_eq_true rfl) dL_isEntrySo_39 ⟨by dsimp only [pq_R]; omega, by dsimp only [pq_R]; omega⟩ (fun v w1 H locs hq hP hD hS hz => ?_)
      obtain ⟨rfl, rfl⟩ := hq
      have hP : va_P D vwCl (ppW q h a0 a1 a2 a3 a4 a5 g b0 b1 cI fi la B G pr) H := hP
      have hD : va_D A (ppW q h a0 a1 a2 a3 a4 a5 g b0 b1 cI fi la B G pr) := hD
      refine W.eq (g2 := F0 m 42 ls [.int (nI (100 * slo N e + (shi N e - 1)))]) rfl ?_
      refine lv_bipush (v := 100) hx hb dL_isEntrySo_42 (by decide) ?_
      refine lv_irem hx hb dL_isEntrySo_44 (by decide) ?_
      refine pq_top (nI ((100 * slo N e + (shi N e - 1)) % 100)) (pk_rem (d := 100) (by omega) (by decide) (by decide)) ?_
      refine pq_top (nI (shi N e - 1)) (congrArg nI (by omega)) ?_
      refine lv_istore (lv' := [(8, .int (nI (shi N e - 1))), (7, .int (nI (slo N e))), (6, .int 1), (5, .int (nI L)), (4, .int 1), (3, .int (nI tr)), (2, .int (nI e)), (0, .ref q), (1, .int (nI kx))]) hx hb dL_isEntrySo_45 hl (by decide) rfl (fun ls hl => ?_)
      have J4 : ∀ (tr2 : Nat), tr2 ≤ 1 → (tr2 = 1 → ge ≤ L) → ∀ (H : Heap) (locs : List Loc) (ls : Array Slot), va_P D vwCl (ppW q h a0 a1 a2 a3 a4 a5 g b0 b1 cI fi la B G pr) H → va_D A (ppW q h a0 a1 a2 a3 a4 a5 g b0 b1 cI fi la B G pr) → va_S A s.heap H locs → lv_has ls 14 [(8, .int (nI (shi N e - 1))), (7, .int (nI (slo N e))), (6, .int 1), (5, .int (nI L)), (4, .int 1), (3, .int (nI tr)), (2, .int (nI e)), (0, .ref q), (1, .int (nI kx))] → W p l ev (pq_R 9 165 0 0) s m args below meth cd H locs 0 0 Q (F0 m 76 ls [.int (nI tr2)]) := by
        intro tr2 htr1 htr2 H locs ls hP hD hS hl
        refine lv_istore_n (lv' := [(3, .int (nI tr2)), (8, .int (nI (shi N e - 1))), (7, .int (nI (slo N e))), (6, .int 1), (5, .int (nI L)), (4, .int 1), (2, .int (nI e)), (0, .ref q), (1, .int (nI kx))]) hx hb dL_isEntrySo_76 rfl hl (by decide) rfl (fun ls hl => ?_)
        refine lv_iconst (v := 0) hx hb dL_isEntrySo_77 (by decide) ?_
        refine lv_istore (lv' := [(9, .int 0), (3, .int (nI tr2)), (8, .int (nI (shi N e - 1))), (7, .int (nI (slo N e))), (6, .int 1), (5, .int (nI L)), (4, .int 1), (2, .int (nI e)), (0, .ref q), (1, .int (nI kx))]) hx hb dL_isEntrySo_78 hl (by decide) rfl (fun ls hl => ?_)
        refine lv_iconst (v := (-1)) hx hb dL_isEntrySo_80 (by decide) ?_
        refine lv_istore (lv' := [(10, .int (-1)), (9, .int 0), (3, .int (nI tr2)), (8, .int (nI (shi N e - 1))), (7, .int (nI (slo N e))), (6, .int 1), (5, .int (nI L)), (4, .int 1), (2, .int (nI e)), (0, .ref q), (1, .int (nI kx))]) hx hb dL_isEntrySo_81 hl (by decide) rfl (fun ls hl => ?_)
        refine lv_iconst (v := 0) hx hb dL_isEntrySo_83 (by decide) ?_
        refine lv_istore (lv' := [(11, .int 0), (10, .int (-1)), (9, .int 0), (3, .int (nI tr2)), (8, .int (nI (shi N e - 1))), (7, .int (nI (slo N e))), (6, .int 1), (5, .int (nI L)), (4, .int 1), (2, .int (nI e)), (0, .ref q), (1, .int (nI kx))]) hx hb dL_isEntrySo_84 hl (by decide) rfl (fun ls hl => ?_)
        refine lv_iload hx hb dL_isEntrySo_86 (lv_at hl 5 rfl) ?_
        refine lv_istore (lv' := [(12, .int (nI (slo N e))), (11, .int 0), (10, .int (-1)), (9, .int 0), (3, .int (nI tr2)), (8, .int (nI (shi N e - 1))), (7, .int (nI (slo N e))), (6, .int 1), (5, .int (nI L)), (4, .int 1), (2, .int (nI e)), (0, .ref q), (1, .int (nI kx))]) hx hb dL_isEntrySo_88 hl (by decide) rfl (fun ls hl => ?_)
        have LQ : ∀ (n : Nat) (kk lw mn mo : Nat), shi N e + 1 - kk < n → slo N e ≤ kk → kk ≤ shi N e → Tl hs (slo N e) (kk - slo N e) lw mn mo → ∀ (H : Heap) (locs : List Loc) (ls : Array Slot), va_P D vwCl (ppW q h a0 a1 a2 a3 a4 a5 g b0 b1 cI fi la B G pr) H → va_D A (ppW q h a0 a1 a2 a3 a4 a5 g b0 b1 cI fi la B G pr) → va_S A s.heap H locs → lv_has ls 14 [(12, .int (nI kk)), (11, .int (nI mn)), (10, .int (nI lw - 1)), (9, .int (nI mo)), (3, .int (nI tr2)), (8, .int (nI (shi N e - 1))), (7, .int (nI (slo N e))), (6, .int 1), (5, .int (nI L)), (4, .int 1), (2, .int (nI e)), (0, .ref q), (1, .int (nI kx))] → W p l ev (pq_R 9 165 0 0) s m args below meth cd H locs 0 0 Q (F0 m 90 ls []) := by
          intro n
          induction n with
          | zero => intro kk lw mn mo h1; exact absurd h1 (Nat.not_lt_zero _)
          | succ n ihLQ =>
            intro kk lw mn mo hmeas h1 h2 hT H locs ls hP hD hS hl
            refine lv_iload hx hb dL_isEntrySo_90 (lv_at hl 0 rfl) ?_
            refine lv_iload hx hb dL_isEntrySo_92 (lv_at hl 5 rfl) ?_
            rcases Nat.lt_or_ge (shi N e - 1) kk with k_5 | k_5
            · refine lv_icmp_gt (tgt := 214) hx hb dL_isEntrySo_94 (by decide) (fun _ => ?_) (fun c9 => absurd ((nI_lt (a := (shi N e - 1)) (b := kk) k_5 (by omega))) c9)
              obtain rfl : kk = shi N e := by omega
              obtain ⟨hb1, hb2, hb3⟩ := Tl_b (b := 1000) hT (fun k _ z => (I.2.2.2.2.2.2.1 k (by omega)).1)
              obtain ⟨cm1, cm2, cm3, cm4, cm5, cm6⟩ := ent_cmp (by omega) hTl hT (fun k z1 z2 => hwv k z1 (by omega))
              have hub : ue ≤ 64000 := by have z := nSum_b (h := wv) (f := slo N e) (c := 0) (b := 1000) (n := shi N e - slo N e) (fun k z1 z2 => by have := hwv k z1 (by omega); omega); omega
              have hsz : nSum hs (slo N e) 0 (shi N e - 1 + 1 - slo N e) = nSum hs (slo N e) 0 (shi N e - slo N e) := by rw [show shi N e - 1 + 1 = shi N e by omega]
              refine lv_aload_n hx hb dL_isEntrySo_214 rfl (lv_at hl 11 rfl) ?_
              refine lv_iload hx hb dL_isEntrySo_215 (lv_at hl 6 rfl) ?_
              refine lv_iload hx hb dL_isEntrySo_217 (lv_at hl 5 rfl) ?_
              refine pq_callV (wr := []) (own := RL) (nL := 14) (q0 := 0) (ci := 2) [0, 1, 2, 3, 4, 5, 6, 7, 8, 9, 10] [] [.int (nI (slo N e)), .int (nI (shi N e - 1))] (f_earthByColumns l D cI q h a0 a1 a2 a3 a4 a5 g b0 b1 I (kf := (slo N e)) (kt := (shi N e - 1)) (by omega) (by omega)) ⟨hx, hb, hml, hown, hts⟩ (cwV 2 hts gL_isEntrySo_X2_earthByColumns rfl rfl rfl (by decide +kernel) ⟨by dsimp only [pq_R]; omega, by dsimp only [pq_R]; omega⟩) pq_blE (hE.call hD hS hA [0, 1, 2, 3, 4, 5, 6, 7, 8, 9, 10] rfl) hK hP hD hS hA rfl (by decide) rfl (by decide) (by decide) rfl rfl rfl rfl hl.1 rfl (Nat.le_of_ble_eq_true rfl) dL_isEntrySo_219 ⟨by dsimp only [pq_R]; omega, by dsimp only [pq_R]; omega⟩ (fun v w1 H locs hq hP hD hS hz => ?_)
              obtain ⟨rfl, rfl⟩ := hq
              have b_6 := j_sum_b (c := 0) I (f := (slo N e)) (t := (shi N e - 1)) (by omega) (by omega)
              have hP : va_P D vwCl (ppW q h a0 a1 a2 a3 a4 a5 g b0 b1 cI fi la B G pr) H := hP
              have hD : va_D A (ppW q h a0 a1 a2 a3 a4 a5 g b0 b1 cI fi la B G pr) := hD
              refine W.eq (g2 := F0 m 222 ls [.int (nI (nSum hs (slo N e) 0 ((shi N e - 1) + 1 - (slo N e))))]) rfl ?_
              refine lv_istore (lv' := [(12, .int (nI (nSum hs (slo N e) 0 ((shi N e - 1) + 1 - (slo N e))))), (11, .int (nI mn)), (10, .int (nI lw - 1)), (9, .int (nI mo)), (3, .int (nI tr2)), (8, .int (nI (shi N e - 1))), (7, .int (nI (slo N e))), (6, .int 1), (5, .int (nI L)), (4, .int 1), (2, .int (nI e)), (0, .ref q), (1, .int (nI kx))]) hx hb dL_isEntrySo_222 hl (by decide) rfl (fun ls hl => ?_)
              refine lv_aload_n hx hb dL_isEntrySo_224 rfl (lv_at hl 11 rfl) ?_
              refine lv_iload_n hx hb dL_isEntrySo_225 rfl (lv_at hl 10 rfl) ?_
              refine pq_callV (wr := []) (own := RL) (nL := 14) (q0 := 0) (ci := 2) [0, 1, 2, 3, 4, 5, 6, 7, 8, 9, 10] [] [.int (nI e)] (f_greatest l D cI q h a0 a1 a2 a3 a4 a5 g b0 b1 I (ke := e) hXE (x := ge) hge) ⟨hx, hb, hml, hown, hts⟩ (cwV 1 hts gL_isEntrySo_X2_greatest rfl rfl rfl (by decide +kernel) ⟨by dsimp only [pq_R]; omega, by dsimp only [pq_R]; omega⟩) pq_blE (hE.call hD hS hA [0, 1, 2, 3, 4, 5, 6, 7, 8, 9, 10] rfl) hK hP hD hS hA rfl (by decide) rfl (by decide) (by decide) rfl rfl rfl rfl hl.1 rfl (Nat.le_of_ble_eq_true rfl) dL_isEntrySo_226 ⟨by dsimp only [pq_R]; omega, by dsimp only [pq_R]; omega⟩ (fun v w1 H locs hq hP hD hS hz => ?_)
              obtain ⟨rfl, rfl⟩ := hq
              have hP : va_P D vwCl (ppW q h a0 a1 a2 a3 a4 a5 g b0 b1 cI fi la B G pr) H := hP
              have hD : va_D A (ppW q h a0 a1 a2 a3 a4 a5 g b0 b1 cI fi la B G pr) := hD
              refine W.eq (g2 := F0 m 229 ls [.int (nI ge)]) rfl ?_
              refine lv_iload hx hb dL_isEntrySo_229 (lv_at hl 8 rfl) ?_
              have J8 : ∀ (H : Heap) (locs : List Loc) (ls : Array Slot), va_P D vwCl (ppW q h a0 a1 a2 a3 a4 a5 g b0 b1 cI fi la B G pr) H → va_D A (ppW q h a0 a1 a2 a3 a4 a5 g b0 b1 cI fi la B G pr) → va_S A s.heap H locs → lv_has ls 14 [(12, .int (nI (nSum hs (slo N e) 0 ((shi N e - 1) + 1 - (slo N e))))), (11, .int (nI mn)), (10, .int (nI lw - 1)), (9, .int (nI mo)), (3, .int (nI tr2)), (8, .int (nI (shi N e - 1))), (7, .int (nI (slo N e))), (6, .int 1), (5, .int (nI L)), (4, .int 1), (2, .int (nI e)), (0, .ref q), (1, .int (nI kx))] → W p l ev (pq_R 9 165 0 0) s m args below meth cd H locs 0 0 Q (F0 m 244 ls [.int (nI (min ge L))]) := by
                intro H locs ls hP hD hS hl
                refine lv_istore (lv' := [(5, .int (nI (min ge L))), (12, .int (nI (nSum hs (slo N e) 0 ((shi N e - 1) + 1 - (slo N e))))), (11, .int (nI mn)), (10, .int (nI lw - 1)), (9, .int (nI mo)), (3, .int (nI tr2)), (8, .int (nI (shi N e - 1))), (7, .int (nI (slo N e))), (6, .int 1), (4, .int 1), (2, .int (nI e)), (0, .ref q), (1, .int (nI kx))]) hx hb dL_isEntrySo_244 hl (by decide) rfl (fun ls hl => ?_)
                refine lv_aload_n hx hb dL_isEntrySo_246 rfl (lv_at hl 11 rfl) ?_
                refine lv_iload_n hx hb dL_isEntrySo_247 rfl (lv_at hl 10 rfl) ?_
                refine pq_callV (wr := []) (own := RL) (nL := 14) (q0 := 0) (ci := 2) [0, 1, 2, 3, 4, 5, 6, 7, 8, 9, 10] [] [.int (nI e)] (f_greatest l D cI q h a0 a1 a2 a3 a4 a5 g b0 b1 I (ke := e) hXE (x := ge) hge) ⟨hx, hb, hml, hown, hts⟩ (cwV 1 hts gL_isEntrySo_X2_greatest rfl rfl rfl (by decide +kernel) ⟨by dsimp only [pq_R]; omega, by dsimp only [pq_R]; omega⟩) pq_blE (hE.call hD hS hA [0, 1, 2, 3, 4, 5, 6, 7, 8, 9, 10] rfl) hK hP hD hS hA rfl (by decide) rfl (by decide) (by decide) rfl rfl rfl rfl hl.1 rfl (Nat.le_of_ble_eq_true rfl) dL_isEntrySo_248 ⟨by dsimp only [pq_R]; omega, by dsimp only [pq_R]; omega⟩ (fun v w1 H locs hq hP hD hS hz => ?_)
                obtain ⟨rfl, rfl⟩ := hq
                have hP : va_P D vwCl (ppW q h a0 a1 a2 a3 a4 a5 g b0 b1 cI fi la B G pr) H := hP
                have hD : va_D A (ppW q h a0 a1 a2 a3 a4 a5 g b0 b1 cI fi la B G pr) := hD
                refine W.eq (g2 := F0 m 251 ls [.int (nI ge)]) rfl ?_
                refine lv_iload hx hb dL_isEntrySo_251 (lv_at hl 4 rfl) ?_
                refine lv_icmp_lt (tgt := 307) hx hb dL_isEntrySo_253 (by decide) (fun c9 => absurd c9 (nI_nlt (a := ge) (b := mo) (by omega) (by omega))) (fun _ => ?_)
                refine lv_aload_n hx hb dL_isEntrySo_256 rfl (lv_at hl 11 rfl) ?_
                refine lv_iload_n hx hb dL_isEntrySo_257 rfl (lv_at hl 10 rfl) ?_
                refine pq_callV (wr := []) (own := RL) (nL := 14) (q0 := 0) (ci := 2) [0, 1, 2, 3, 4, 5, 6, 7, 8, 9, 10] [] [.int (nI e)] (f_noted l D cI q h a0 a1 a2 a3 a4 a5 g b0 b1 I (ke := e) hXE (x := ue) hue) ⟨hx, hb, hml, hown, hts⟩ (cwV 1 hts gL_isEntrySo_X2_noted rfl rfl rfl (by decide +kernel) ⟨by dsimp only [pq_R]; omega, by dsimp only [pq_R]; omega⟩) pq_blE (hE.call hD hS hA [0, 1, 2, 3, 4, 5, 6, 7, 8, 9, 10] rfl) hK hP hD hS hA rfl (by decide) rfl (by decide) (by decide) rfl rfl rfl rfl hl.1 rfl (Nat.le_of_ble_eq_true rfl) dL_isEntrySo_258 ⟨by dsimp only [pq_R]; omega, by dsimp only [pq_R]; omega⟩ (fun v w1 H locs hq hP hD hS hz => ?_)
                obtain ⟨rfl, rfl⟩ := hq
                have hP : va_P D vwCl (ppW q h a0 a1 a2 a3 a4 a5 g b0 b1 cI fi la B G pr) H := hP
                have hD : va_D A (ppW q h a0 a1 a2 a3 a4 a5 g b0 b1 cI fi la B G pr) := hD
                refine W.eq (g2 := F0 m 261 ls [.int (nI ue)]) rfl ?_
                refine lv_iload hx hb dL_isEntrySo_261 (lv_at hl 1 rfl) ?_
                refine lv_icmp_lt (tgt := 307) hx hb dL_isEntrySo_263 (by decide) (fun c9 => absurd c9 (nI_nlt (a := ue) (b := (nSum hs (slo N e) 0 ((shi N e - 1) + 1 - (slo N e)))) (by omega) (by omega))) (fun _ => ?_)
                refine lv_aload_n hx hb dL_isEntrySo_266 rfl (lv_at hl 11 rfl) ?_
                refine lv_iload_n hx hb dL_isEntrySo_267 rfl (lv_at hl 10 rfl) ?_
                refine pq_callV (wr := []) (own := RL) (nL := 14) (q0 := 0) (ci := 2) [0, 1, 2, 3, 4, 5, 6, 7, 8, 9, 10] [] [.int (nI e)] (f_second l D cI q h a0 a1 a2 a3 a4 a5 g b0 b1 I (ke := e) hXE (x := se) hse) ⟨hx, hb, hml, hown, hts⟩ (cwV 1 hts gL_isEntrySo_X2_second rfl rfl rfl (by decide +kernel) ⟨by dsimp only [pq_R]; omega, by dsimp only [pq_R]; omega⟩) pq_blE (hE.call hD hS hA [0, 1, 2, 3, 4, 5, 6, 7, 8, 9, 10] rfl) hK hP hD hS hA rfl (by decide) rfl (by decide) (by decide) rfl rfl rfl rfl hl.1 rfl (Nat.le_of_ble_eq_true rfl) dL_isEntrySo_268 ⟨by dsimp only [pq_R]; omega, by dsimp only [pq_R]; omega⟩ (fun v w1 H locs hq hP hD hS hz => ?_)
                obtain ⟨rfl, rfl⟩ := hq
                have hP : va_P D vwCl (ppW q h a0 a1 a2 a3 a4 a5 g b0 b1 cI fi la B G pr) H := hP
                have hD : va_D A (ppW q h a0 a1 a2 a3 a4 a5 g b0 b1 cI fi la B G pr) := hD
                refine W.eq (g2 := F0 m 271 ls [.int (nI se - 1)]) rfl ?_
                refine lv_aload_n hx hb dL_isEntrySo_271 rfl (lv_at hl 11 rfl) ?_
                refine lv_iload_n hx hb dL_isEntrySo_272 rfl (lv_at hl 10 rfl) ?_
                refine pq_callV (wr := []) (own := RL) (nL := 14) (q0 := 0) (ci := 2) [0, 1, 2, 3, 4, 5, 6, 7, 8, 9, 10] [] [.int (nI e)] (f_greatest l D cI q h a0 a1 a2 a3 a4 a5 g b0 b1 I (ke := e) hXE (x := ge) hge) ⟨hx, hb, hml, hown, hts⟩ (cwV 1 hts gL_isEntrySo_X2_greatest rfl rfl rfl (by decide +kernel) ⟨by dsimp only [pq_R]; omega, by dsimp only [pq_R]; omega⟩) pq_blE (hE.call hD hS hA [0, 1, 2, 3, 4, 5, 6, 7, 8, 9, 10] rfl) hK hP hD hS hA rfl (by decide) rfl (by decide) (by decide) rfl rfl rfl rfl hl.1 rfl (Nat.le_of_ble_eq_true rfl) dL_isEntrySo_273 ⟨by dsimp only [pq_R]; omega, by dsimp only [pq_R]; omega⟩ (fun v w1 H locs hq hP hD hS hz => ?_)
                obtain ⟨rfl, rfl⟩ := hq
                have hP : va_P D vwCl (ppW q h a0 a1 a2 a3 a4 a5 g b0 b1 cI fi la B G pr) H := hP
                have hD : va_D A (ppW q h a0 a1 a2 a3 a4 a5 g b0 b1 cI fi la B G pr) := hD
                refine W.eq (g2 := F0 m 276 ls [.int (nI ge), .int (nI se - 1)]) rfl ?_
                refine lv_icmp_ge (tgt := 307) hx hb dL_isEntrySo_276 (by decide) (fun c9 => absurd ((n_le2b (a := ge) (b := se) (by omega) (by omega)).mp c9) (by omega)) (fun _ => ?_)
                refine lv_aload_n hx hb dL_isEntrySo_279 rfl (lv_at hl 11 rfl) ?_
                refine lv_iload_n hx hb dL_isEntrySo_280 rfl (lv_at hl 10 rfl) ?_
                refine pq_callV (wr := []) (own := RL) (nL := 14) (q0 := 0) (ci := 2) [0, 1, 2, 3, 4, 5, 6, 7, 8, 9, 10] [] [.int (nI e)] (f_many l D cI q h a0 a1 a2 a3 a4 a5 g b0 b1 I (ke := e) hXE (x := me) hme) ⟨hx, hb, hml, hown, hts⟩ (cwV 1 hts gL_isEntrySo_X2_many rfl rfl rfl (by decide +kernel) ⟨by dsimp only [pq_R]; omega, by dsimp only [pq_R]; omega⟩) pq_blE (hE.call hD hS hA [0, 1, 2, 3, 4, 5, 6, 7, 8, 9, 10] rfl) hK hP hD hS hA rfl (by decide) rfl (by decide) (by decide) rfl rfl rfl rfl hl.1 rfl (Nat.le_of_ble_eq_true rfl) dL_isEntrySo_281 ⟨by dsimp only [pq_R]; omega, by dsimp only [pq_R]; omega⟩ (fun v w1 H locs hq hP hD hS hz => ?_)
                obtain ⟨rfl, rfl⟩ := hq
                have hP : va_P D vwCl (ppW q h a0 a1 a2 a3 a4 a5 g b0 b1 cI fi la B G pr) H := hP
                have hD : va_D A (ppW q h a0 a1 a2 a3 a4 a5 g b0 b1 cI fi la B G pr) := hD
                refine W.eq (g2 := F0 m 284 ls [.int (nI me)]) rfl ?_
                refine lv_iconst (v := 1) hx hb dL_isEntrySo_284 (by decide) ?_
                refine lv_icmp_lt (tgt := 307) hx hb dL_isEntrySo_285 (by decide) (fun c9 => absurd c9 (nI_nlt (a := me) (b := 1) (by omega) (by omega))) (fun _ => ?_)
                refine lv_aload_n hx hb dL_isEntrySo_288 rfl (lv_at hl 11 rfl) ?_
                refine lv_iload_n hx hb dL_isEntrySo_289 rfl (lv_at hl 10 rfl) ?_
                refine pq_callV (wr := []) (own := RL) (nL := 14) (q0 := 0) (ci := 2) [0, 1, 2, 3, 4, 5, 6, 7, 8, 9, 10] [] [.int (nI e)] (f_many l D cI q h a0 a1 a2 a3 a4 a5 g b0 b1 I (ke := e) hXE (x := me) hme) ⟨hx, hb, hml, hown, hts⟩ (cwV 1 hts gL_isEntrySo_X2_many rfl rfl rfl (by decide +kernel) ⟨by dsimp only [pq_R]; omega, by dsimp only [pq_R]; omega⟩) pq_blE (hE.call hD hS hA [0, 1, 2, 3, 4, 5, 6, 7, 8, 9, 10] rfl) hK hP hD hS hA rfl (by decide) rfl (by decide) (by decide) rfl rfl rfl rfl hl.1 rfl (Nat.le_of_ble_eq_true rfl) dL_isEntrySo_290 ⟨by dsimp only [pq_R]; omega, by dsimp only [pq_R]; omega⟩ (fun v w1 H locs hq hP hD hS hz => ?_)
                obtain ⟨rfl, rfl⟩ := hq
                have hP : va_P D vwCl (ppW q h a0 a1 a2 a3 a4 a5 g b0 b1 cI fi la B G pr) H := hP
                have hD : va_D A (ppW q h a0 a1 a2 a3 a4 a5 g b0 b1 cI fi la B G pr) := hD
                refine W.eq (g2 := F0 m 293 ls [.int (nI me)]) rfl ?_
                refine lv_iload hx hb dL_isEntrySo_293 (lv_at hl 6 rfl) ?_
                refine lv_iload hx hb dL_isEntrySo_295 (lv_at hl 7 rfl) ?_
                refine lv_isub hx hb dL_isEntrySo_297 ?_
                refine pq_top (nI ((shi N e - 1) - (slo N e))) (pk_sub (by omega)) ?_
                refine lv_iconst (v := 1) hx hb dL_isEntrySo_298 (by decide) ?_
                refine lv_iadd hx hb dL_isEntrySo_299 ?_
                refine pq_top (nI (((shi N e - 1) - (slo N e)) + 1)) (nI_1 _) ?_
                refine lv_icmp_gt (tgt := 307) hx hb dL_isEntrySo_300 (by decide) (fun c9 => absurd c9 (nI_nlt (a := (((shi N e - 1) - (slo N e)) + 1)) (b := me) (by omega) (by omega))) (fun _ => ?_)
                refine lv_iconst (v := 1) hx hb dL_isEntrySo_303 (by decide) ?_
                refine lv_goto (tgt := 308) hx hb dL_isEntrySo_304 (by decide) ?_
                refine lv_istore (lv' := [(4, .int 1), (5, .int (nI (min ge L))), (12, .int (nI (nSum hs (slo N e) 0 ((shi N e - 1) + 1 - (slo N e))))), (11, .int (nI mn)), (10, .int (nI lw - 1)), (9, .int (nI mo)), (3, .int (nI tr2)), (8, .int (nI (shi N e - 1))), (7, .int (nI (slo N e))), (6, .int 1), (2, .int (nI e)), (0, .ref q), (1, .int (nI kx))]) hx hb dL_isEntrySo_308 hl (by decide) rfl (fun ls hl => ?_)
                have J15 : ∀ (H : Heap) (locs : List Loc) (ls : Array Slot), va_P D vwCl (ppW q h a0 a1 a2 a3 a4 a5 g b0 b1 cI fi la B G pr) H → va_D A (ppW q h a0 a1 a2 a3 a4 a5 g b0 b1 cI fi la B G pr) → va_S A s.heap H locs → lv_has ls 14 [(4, .int 1), (5, .int (nI (min ge L))), (12, .int (nI (nSum hs (slo N e) 0 ((shi N e - 1) + 1 - (slo N e))))), (11, .int (nI mn)), (10, .int (nI lw - 1)), (9, .int (nI mo)), (3, .int (nI tr2)), (8, .int (nI (shi N e - 1))), (7, .int (nI (slo N e))), (6, .int 1), (2, .int (nI e)), (0, .ref q), (1, .int (nI kx))] → W p l ev (pq_R 9 165 0 0) s m args below meth cd H locs 0 0 Q (F0 m 366 ls []) := by
                  intro H locs ls hP hD hS hl
                  refine lv_iload hx hb dL_isEntrySo_366 (lv_at hl 8 rfl) ?_
                  refine lv_iload hx hb dL_isEntrySo_368 (lv_at hl 7 rfl) ?_
                  rcases Nat.lt_or_ge (slo N e) (shi N e - 1) with k_16 | k_16
                  · refine lv_icmp_ge (tgt := 383) hx hb dL_isEntrySo_370 (by decide) (fun c9 => absurd c9 ((nI_ge (a := (slo N e)) (b := (shi N e - 1)) k_16 (by omega)))) (fun _ => ?_)
                    have hPt : Pt N e := by unfold Pt; omega
                    have he64 := (sp_in N (by omega) e hXE.2.1 hXE.1).1 hPt
                    obtain ⟨E0, E1, y1, y2, y3, y4, y5⟩ := Ex_kids (by omega) hXE hPt
                    obtain ⟨kd1, kd2, kd3, kd4, kd5⟩ := kd_sp (by omega) hXE hPt
                    have hsh2 := (sp_in N (by omega) (2 * e) E0.2.1 E0.1).2.2
                    refine lv_iload_n hx hb dL_isEntrySo_373 rfl (lv_at hl 10 rfl) ?_
                    refine lv_bipush (v := 64) hx hb dL_isEntrySo_374 (by decide) ?_
                    refine lv_icmp_ge (tgt := 383) hx hb dL_isEntrySo_376 (by decide) (fun c9 => absurd c9 (nI_ge (a := e) (b := 64) (by omega) (by omega))) (fun _ => ?_)
                    refine lv_iconst (v := 1) hx hb dL_isEntrySo_379 (by decide) ?_
                    refine lv_goto (tgt := 384) hx hb dL_isEntrySo_380 (by decide) ?_
                    refine lv_istore (lv' := [(6, .int 1), (4, .int 1), (5, .int (nI (min ge L))), (12, .int (nI (nSum hs (slo N e) 0 ((shi N e - 1) + 1 - (slo N e))))), (11, .int (nI mn)), (10, .int (nI lw - 1)), (9, .int (nI mo)), (3, .int (nI tr2)), (8, .int (nI (shi N e - 1))), (7, .int (nI (slo N e))), (2, .int (nI e)), (0, .ref q), (1, .int (nI kx))]) hx hb dL_isEntrySo_384 hl (by decide) rfl (fun ls hl => ?_)
                    refine lv_iload hx hb dL_isEntrySo_386 (lv_at hl 0 rfl) ?_
                    refine lv_if_eq (tgt := 484) hx hb dL_isEntrySo_388 (by decide) (fun c9 => absurd c9 (by decide)) (fun _ => ?_)
                    refine lv_aload_n hx hb dL_isEntrySo_391 rfl (lv_at hl 11 rfl) ?_
                    refine lv_iconst (v := 2) hx hb dL_isEntrySo_392 (by decide) ?_
                    refine lv_iload_n hx hb dL_isEntrySo_393 rfl (lv_at hl 10 rfl) ?_
                    refine lv_imul hx hb dL_isEntrySo_394 ?_
                    refine pq_top (nI (2 * e)) (pk_mul 2 _) ?_
                    refine pq_callV (wr := []) (own := RL) (nL := 14) (q0 := 0) (ci := 2) [0, 1, 2, 3, 4, 5, 6, 7, 8, 9, 10] [] [.int (nI (2 * e))] (f_spanOf l D cI q h a0 a1 a2 a3 a4 a5 g b0 b1 I (ke := (2 * e)) E0) ⟨hx, hb, hml, hown, hts⟩ (cwV 1 hts gL_isEntrySo_X2_spanOf rfl rfl rfl (by decide +kernel) ⟨by dsimp only [pq_R]; omega, by dsimp only [pq_R]; omega⟩) pq_blE (hE.call hD hS hA [0, 1, 2, 3, 4, 5, 6, 7, 8, 9, 10] rfl) hK hP hD hS hA rfl (by decide) rfl (by decide) (by decide) rfl rfl rfl rfl hl.1 rfl (Nat.le_of_ble_eq_true rfl) dL_isEntrySo_395 ⟨by dsimp only [pq_R]; omega, by dsimp only [pq_R]; omega⟩ (fun v w1 H locs hq hP hD hS hz => ?_)
                    obtain ⟨rfl, rfl⟩ := hq
                    have hP : va_P D vwCl (ppW q h a0 a1 a2 a3 a4 a5 g b0 b1 cI fi la B G pr) H := hP
                    have hD : va_D A (ppW q h a0 a1 a2 a3 a4 a5 g b0 b1 cI fi la B G pr) := hD
                    refine W.eq (g2 := F0 m 398 ls [.int (nI (100 * slo N (2 * e) + (shi N (2 * e) - 1)))]) rfl ?_
                    refine lv_bipush (v := 100) hx hb dL_isEntrySo_398 (by decide) ?_
                    refine lv_irem hx hb dL_isEntrySo_400 (by decide) ?_
                    refine pq_top (nI ((100 * slo N (2 * e) + (shi N (2 * e) - 1)) % 100)) (pk_rem (d := 100) (by omega) (by decide) (by decide)) ?_
                    refine pq_top (nI (shi N (2 * e) - 1)) (congrArg nI kd2) ?_
                    refine lv_istore (lv' := [(13, .int (nI (shi N (2 * e) - 1))), (6, .int 1), (4, .int 1), (5, .int (nI (min ge L))), (12, .int (nI (nSum hs (slo N e) 0 ((shi N e - 1) + 1 - (slo N e))))), (11, .int (nI mn)), (10, .int (nI lw - 1)), (9, .int (nI mo)), (3, .int (nI tr2)), (8, .int (nI (shi N e - 1))), (7, .int (nI (slo N e))), (2, .int (nI e)), (0, .ref q), (1, .int (nI kx))]) hx hb dL_isEntrySo_401 hl (by decide) rfl (fun ls hl => ?_)
                    refine lv_iload hx hb dL_isEntrySo_403 (lv_at hl 2 rfl) ?_
                    refine lv_if_eq (tgt := 463) hx hb dL_isEntrySo_405 (by decide) (fun c9 => absurd c9 (by decide)) (fun _ => ?_)
                    refine lv_iload hx hb dL_isEntrySo_408 (lv_at hl 0 rfl) ?_
                    refine lv_iload hx hb dL_isEntrySo_410 (lv_at hl 10 rfl) ?_
                    refine lv_icmp_lt (tgt := 463) hx hb dL_isEntrySo_412 (by decide) (fun c9 => absurd c9 (nI_nlt (a := (shi N (2 * e) - 1)) (b := (slo N e)) (by omega) (by omega))) (fun _ => ?_)
                    refine lv_iload hx hb dL_isEntrySo_415 (lv_at hl 0 rfl) ?_
                    refine lv_iload hx hb dL_isEntrySo_417 (lv_at hl 9 rfl) ?_
                    refine lv_icmp_ge (tgt := 463) hx hb dL_isEntrySo_419 (by decide) (fun c9 => absurd c9 (nI_ge (a := (shi N (2 * e) - 1)) (b := (shi N e - 1)) (by omega) (by omega))) (fun _ => ?_)
                    refine lv_aload_n hx hb dL_isEntrySo_422 rfl (lv_at hl 12 rfl) ?_
                    refine lv_iconst (v := 2) hx hb dL_isEntrySo_423 (by decide) ?_
                    refine lv_iload_n hx hb dL_isEntrySo_424 rfl (lv_at hl 11 rfl) ?_
                    refine lv_imul hx hb dL_isEntrySo_425 ?_
                    refine pq_top (nI (2 * e)) (pk_mul 2 _) ?_
                    refine pq_callV (wr := []) (own := RL) (nL := 14) (q0 := 0) (ci := 2) [0, 1, 2, 3, 4, 5, 6, 7, 8, 9, 10] [] [.int (nI (2 * e))] (f_spanOf l D cI q h a0 a1 a2 a3 a4 a5 g b0 b1 I (ke := (2 * e)) E0) ⟨hx, hb, hml, hown, hts⟩ (cwV 1 hts gL_isEntrySo_X2_spanOf rfl rfl rfl (by decide +kernel) ⟨by dsimp only [pq_R]; omega, by dsimp only [pq_R]; omega⟩) pq_blE (hE.call hD hS hA [0, 1, 2, 3, 4, 5, 6, 7, 8, 9, 10] rfl) hK hP hD hS hA rfl (by decide) rfl (by decide) (by decide) rfl rfl rfl rfl hl.1 rfl (Nat.le_of_ble_eq_true rfl) dL_isEntrySo_426 ⟨by dsimp only [pq_R]; omega, by dsimp only [pq_R]; omega⟩ (fun v w1 H locs hq hP hD hS hz => ?_)
                    obtain ⟨rfl, rfl⟩ := hq
                    have hP : va_P D vwCl (ppW q h a0 a1 a2 a3 a4 a5 g b0 b1 cI fi la B G pr) H := hP
                    have hD : va_D A (ppW q h a0 a1 a2 a3 a4 a5 g b0 b1 cI fi la B G pr) := hD
                    refine W.eq (g2 := F0 m 429 ls [.int (nI (100 * slo N (2 * e) + (shi N (2 * e) - 1)))]) rfl ?_
                    refine lv_bipush (v := 100) hx hb dL_isEntrySo_429 (by decide) ?_
                    refine lv_idiv hx hb dL_isEntrySo_431 (by decide) ?_
                    refine pq_top (nI ((100 * slo N (2 * e) + (shi N (2 * e) - 1)) / 100)) (pk_div (d := 100) (by omega) (by decide) (by decide)) ?_
                    refine pq_top (nI (slo N e)) (congrArg nI kd1) ?_
                    refine lv_iload hx hb dL_isEntrySo_432 (lv_at hl 10 rfl) ?_
                    refine lv_icmp_ne (tgt := 463) hx hb dL_isEntrySo_434 (by decide) (fun c9 => absurd rfl c9) (fun _ => ?_)
                    refine lv_aload_n hx hb dL_isEntrySo_437 rfl (lv_at hl 12 rfl) ?_
                    refine lv_iconst (v := 2) hx hb dL_isEntrySo_438 (by decide) ?_
                    refine lv_iload_n hx hb dL_isEntrySo_439 rfl (lv_at hl 11 rfl) ?_
                    refine lv_imul hx hb dL_isEntrySo_440 ?_
                    refine pq_top (nI (2 * e)) (pk_mul 2 _) ?_
                    refine lv_iconst (v := 1) hx hb dL_isEntrySo_441 (by decide) ?_
                    refine lv_iadd hx hb dL_isEntrySo_442 ?_
                    refine pq_top (nI ((2 * e) + 1)) (nI_1 _) ?_
                    refine pq_callV (wr := []) (own := RL) (nL := 14) (q0 := 0) (ci := 2) [0, 1, 2, 3, 4, 5, 6, 7, 8, 9, 10] [] [.int (nI ((2 * e) + 1))] (f_spanOf l D cI q h a0 a1 a2 a3 a4 a5 g b0 b1 I (ke := ((2 * e) + 1)) E1) ⟨hx, hb, hml, hown, hts⟩ (cwV 1 hts gL_isEntrySo_X2_spanOf rfl rfl rfl (by decide +kernel) ⟨by dsimp only [pq_R]; omega, by dsimp only [pq_R]; omega⟩) pq_blE (hE.call hD hS hA [0, 1, 2, 3, 4, 5, 6, 7, 8, 9, 10] rfl) hK hP hD hS hA rfl (by decide) rfl (by decide) (by decide) rfl rfl rfl rfl hl.1 rfl (Nat.le_of_ble_eq_true rfl) dL_isEntrySo_443 ⟨by dsimp only [pq_R]; omega, by dsimp only [pq_R]; omega⟩ (fun v w1 H locs hq hP hD hS hz => ?_)
                    obtain ⟨rfl, rfl⟩ := hq
                    have hP : va_P D vwCl (ppW q h a0 a1 a2 a3 a4 a5 g b0 b1 cI fi la B G pr) H := hP
                    have hD : va_D A (ppW q h a0 a1 a2 a3 a4 a5 g b0 b1 cI fi la B G pr) := hD
                    refine W.eq (g2 := F0 m 446 ls [.int (nI (100 * slo N ((2 * e) + 1) + (shi N ((2 * e) + 1) - 1)))]) rfl ?_
                    refine lv_bipush (v := 100) hx hb dL_isEntrySo_446 (by decide) ?_
                    refine lv_iload hx hb dL_isEntrySo_448 (lv_at hl 0 rfl) ?_
                    refine lv_iconst (v := 1) hx hb dL_isEntrySo_450 (by decide) ?_
                    refine lv_iadd hx hb dL_isEntrySo_451 ?_
                    refine pq_top (nI ((shi N (2 * e) - 1) + 1)) (nI_1 _) ?_
                    refine lv_imul hx hb dL_isEntrySo_452 ?_
                    refine pq_top (nI (100 * ((shi N (2 * e) - 1) + 1))) (pk_mul 100 _) ?_
                    refine lv_iload hx hb dL_isEntrySo_453 (lv_at hl 9 rfl) ?_
                    refine lv_iadd hx hb dL_isEntrySo_455 ?_
                    refine pq_top (nI ((100 * ((shi N (2 * e) - 1) + 1)) + (shi N e - 1))) (nI_add _ _) ?_
                    refine lv_icmp_ne (tgt := 463) hx hb dL_isEntrySo_456 (by decide) (fun c9 => absurd ((nI_eq (a := (100 * slo N ((2 * e) + 1) + (shi N ((2 * e) + 1) - 1))) (b := ((100 * ((shi N (2 * e) - 1) + 1)) + (shi N e - 1))) (by omega) (by omega)).mpr (by omega)) c9) (fun _ => ?_)
                    refine lv_iconst (v := 1) hx hb dL_isEntrySo_459 (by decide) ?_
                    refine lv_goto (tgt := 464) hx hb dL_isEntrySo_460 (by decide) ?_
                    refine lv_istore (lv' := [(4, .int 1), (13, .int (nI (shi N (2 * e) - 1))), (6, .int 1), (5, .int (nI (min ge L))), (12, .int (nI (nSum hs (slo N e) 0 ((shi N e - 1) + 1 - (slo N e))))), (11, .int (nI mn)), (10, .int (nI lw - 1)), (9, .int (nI mo)), (3, .int (nI tr2)), (8, .int (nI (shi N e - 1))), (7, .int (nI (slo N e))), (2, .int (nI e)), (0, .ref q), (1, .int (nI kx))]) hx hb dL_isEntrySo_464 hl (by decide) rfl (fun ls hl => ?_)
                    refine lv_iload_n hx hb dL_isEntrySo_466 rfl (lv_at hl 13 rfl) ?_
                    refine lv_iload hx hb dL_isEntrySo_467 (lv_at hl 1 rfl) ?_
                    rcases Nat.lt_or_ge (shi N (2 * e) - 1) kx with k_20 | k_20
                    · refine lv_icmp_gt (tgt := 478) hx hb dL_isEntrySo_469 (by decide) (fun _ => ?_) (fun c9 => absurd ((nI_lt (a := (shi N (2 * e) - 1)) (b := kx) k_20 (by omega))) c9)
                      refine lv_iconst (v := 2) hx hb dL_isEntrySo_478 (by decide) ?_
                      refine lv_iload_n hx hb dL_isEntrySo_479 rfl (lv_at hl 11 rfl) ?_
                      refine lv_imul hx hb dL_isEntrySo_480 ?_
                      refine pq_top (nI (2 * e)) (pk_mul 2 _) ?_
                      refine lv_iconst (v := 1) hx hb dL_isEntrySo_481 (by decide) ?_
                      refine lv_iadd hx hb dL_isEntrySo_482 ?_
                      refine pq_top (nI ((2 * e) + 1)) (nI_1 _) ?_
                      refine lv_istore_n (lv' := [(2, .int (nI ((2 * e) + 1))), (4, .int 1), (13, .int (nI (shi N (2 * e) - 1))), (6, .int 1), (5, .int (nI (min ge L))), (12, .int (nI (nSum hs (slo N e) 0 ((shi N e - 1) + 1 - (slo N e))))), (11, .int (nI mn)), (10, .int (nI lw - 1)), (9, .int (nI mo)), (3, .int (nI tr2)), (8, .int (nI (shi N e - 1))), (7, .int (nI (slo N e))), (0, .ref q), (1, .int (nI kx))]) hx hb dL_isEntrySo_483 rfl hl (by decide) rfl (fun ls hl => ?_)
                      refine lv_goto (tgt := 17) hx hb dL_isEntrySo_484 (by decide) ?_
                      exact ihLP (2 * e + 1) (min ge L) tr2 (by omega) (by have z := pw_kid (by omega) hPw hPt hge hge2; rw [show kid N e kx = 2 * e + 1 from (if_neg (by omega))] at z; exact z) (by omega) (fun z => Or.inr ⟨by omega, by rw [show (2 * e + 1) / 2 = e by omega, hge, show min ge L = ge by have := htr2 z; omega]⟩) (fun z => absurd z (by omega)) H locs ls hP hD hS (lv_sub hl [3, 4, 1, 9, 0, 12, 13] rfl)
                    · refine lv_icmp_gt (tgt := 478) hx hb dL_isEntrySo_469 (by decide) (fun c9 => absurd c9 ((nI_nlt (a := (shi N (2 * e) - 1)) (b := kx) k_20 (by omega)))) (fun _ => ?_)
                      refine lv_iconst (v := 2) hx hb dL_isEntrySo_472 (by decide) ?_
                      refine lv_iload_n hx hb dL_isEntrySo_473 rfl (lv_at hl 11 rfl) ?_
                      refine lv_imul hx hb dL_isEntrySo_474 ?_
                      refine pq_top (nI (2 * e)) (pk_mul 2 _) ?_
                      refine lv_goto (tgt := 483) hx hb dL_isEntrySo_475 (by decide) ?_
                      refine lv_istore_n (lv' := [(2, .int (nI (2 * e))), (4, .int 1), (13, .int (nI (shi N (2 * e) - 1))), (6, .int 1), (5, .int (nI (min ge L))), (12, .int (nI (nSum hs (slo N e) 0 ((shi N e - 1) + 1 - (slo N e))))), (11, .int (nI mn)), (10, .int (nI lw - 1)), (9, .int (nI mo)), (3, .int (nI tr2)), (8, .int (nI (shi N e - 1))), (7, .int (nI (slo N e))), (0, .ref q), (1, .int (nI kx))]) hx hb dL_isEntrySo_483 rfl hl (by decide) rfl (fun ls hl => ?_)
                      refine lv_goto (tgt := 17) hx hb dL_isEntrySo_484 (by decide) ?_
                      exact ihLP (2 * e) (min ge L) tr2 (by omega) (by have z := pw_kid (by omega) hPw hPt hge hge2; rw [show kid N e kx = 2 * e from (if_pos (by omega))] at z; exact z) (by omega) (fun z => Or.inr ⟨by omega, by rw [show (2 * e) / 2 = e by omega, hge, show min ge L = ge by have := htr2 z; omega]⟩) (fun z => absurd z (by omega)) H locs ls hP hD hS (lv_sub hl [3, 4, 1, 9, 0, 12, 13] rfl)
                  · refine lv_icmp_ge (tgt := 383) hx hb dL_isEntrySo_370 (by decide) (fun _ => ?_) (fun c9 => absurd ((nI_le (a := (shi N e - 1)) (b := (slo N e)) k_16 (by omega))) c9)
                    have hleaf : hs kx = min ge L := by
                      have z1 : slo N e = kx := by omega
                      have z2 : shi N e - slo N e = 1 := by omega
                      rw [z2, z1] at hTl
                      exact ent_leaf hTl (hwv kx (by omega) (by omega)).2
                    refine lv_iconst (v := 0) hx hb dL_isEntrySo_383 (by decide) ?_
                    refine lv_istore (lv' := [(6, .int 0), (4, .int 1), (5, .int (nI (min ge L))), (12, .int (nI (nSum hs (slo N e) 0 ((shi N e - 1) + 1 - (slo N e))))), (11, .int (nI mn)), (10, .int (nI lw - 1)), (9, .int (nI mo)), (3, .int (nI tr2)), (8, .int (nI (shi N e - 1))), (7, .int (nI (slo N e))), (2, .int (nI e)), (0, .ref q), (1, .int (nI kx))]) hx hb dL_isEntrySo_384 hl (by decide) rfl (fun ls hl => ?_)
                    refine lv_iload hx hb dL_isEntrySo_386 (lv_at hl 0 rfl) ?_
                    refine lv_if_eq (tgt := 484) hx hb dL_isEntrySo_388 (by decide) (fun _ => ?_) (fun c9 => absurd c9 (by decide))
                    refine lv_goto (tgt := 17) hx hb dL_isEntrySo_484 (by decide) ?_
                    refine lv_iload hx hb dL_isEntrySo_17 (lv_at hl 0 rfl) ?_
                    refine lv_if_eq (tgt := 487) hx hb dL_isEntrySo_19 (by decide) (fun _ => ?_) (fun c9 => absurd c9 (by decide))
                    refine lv_iload hx hb dL_isEntrySo_487 (lv_at hl 1 rfl) ?_
                    refine lv_if_eq (tgt := 516) hx hb dL_isEntrySo_489 (by decide) (fun c9 => absurd c9 (by decide)) (fun _ => ?_)
                    refine lv_aload_n hx hb dL_isEntrySo_492 rfl (lv_at hl 11 rfl) ?_
                    refine lv_iload_n hx hb dL_isEntrySo_493 rfl (lv_at hl 12 rfl) ?_
                    refine pq_callV (wr := []) (own := RL) (nL := 14) (q0 := 0) (ci := 2) [0, 1, 2, 3, 4, 5, 6, 7, 8, 9, 10] [] [.int (nI kx)] (f_height l D cI q h a0 a1 a2 a3 a4 a5 g b0 b1 I (kx := kx) (by omega)) ⟨hx, hb, hml, hown, hts⟩ (cwV 1 hts gL_isEntrySo_X2_height rfl rfl rfl (by decide +kernel) ⟨by dsimp only [pq_R]; omega, by dsimp only [pq_R]; omega⟩) pq_blE (hE.call hD hS hA [0, 1, 2, 3, 4, 5, 6, 7, 8, 9, 10] rfl) hK hP hD hS hA rfl (by decide) rfl (by decide) (by decide) rfl rfl rfl rfl hl.1 rfl (Nat.le_of_ble_eq_true rfl) dL_isEntrySo_494 ⟨by dsimp only [pq_R]; omega, by dsimp only [pq_R]; omega⟩ (fun v w1 H locs hq hP hD hS hz => ?_)
                    obtain ⟨rfl, rfl⟩ := hq
                    have b_21 := (I.2.2.2.2.2.2.1 kx (by omega)).1
                    have hP : va_P D vwCl (ppW q h a0 a1 a2 a3 a4 a5 g b0 b1 cI fi la B G pr) H := hP
                    have hD : va_D A (ppW q h a0 a1 a2 a3 a4 a5 g b0 b1 cI fi la B G pr) := hD
                    refine W.eq (g2 := F0 m 497 ls [.int (nI (hs kx))]) rfl ?_
                    refine lv_iload hx hb dL_isEntrySo_497 (lv_at hl 2 rfl) ?_
                    refine lv_icmp_ne (tgt := 516) hx hb dL_isEntrySo_499 (by decide) (fun c9 => absurd ((nI_eq (a := (hs kx)) (b := (min ge L)) (by omega) (by omega)).mpr (by omega)) c9) (fun _ => ?_)
                    refine lv_aload_n hx hb dL_isEntrySo_502 rfl (lv_at hl 11 rfl) ?_
                    refine lv_iload_n hx hb dL_isEntrySo_503 rfl (lv_at hl 12 rfl) ?_
                    refine pq_callV (wr := []) (own := RL) (nL := 14) (q0 := 0) (ci := 2) [0, 1, 2, 3, 4, 5, 6, 7, 8, 9, 10] [] [.int (nI kx)] (f_heightOfColumn l D cI q h a0 a1 a2 a3 a4 a5 g b0 b1 I (kx := kx) (by omega)) ⟨hx, hb, hml, hown, hts⟩ (cwV 1 hts gL_isEntrySo_X2_heightOfColumn rfl rfl rfl (by decide +kernel) ⟨by dsimp only [pq_R]; omega, by dsimp only [pq_R]; omega⟩) pq_blE (hE.call hD hS hA [0, 1, 2, 3, 4, 5, 6, 7, 8, 9, 10] rfl) hK hP hD hS hA rfl (by decide) rfl (by decide) (by decide) rfl rfl rfl rfl hl.1 rfl (Nat.le_of_ble_eq_true rfl) dL_isEntrySo_504 ⟨by dsimp only [pq_R]; omega, by dsimp only [pq_R]; omega⟩ (fun v w1 H locs hq hP hD hS hz => ?_)
                    obtain ⟨rfl, rfl⟩ := hq
                    have b_22 := (I.2.2.2.2.2.2.1 kx (by omega)).1
                    have hP : va_P D vwCl (ppW q h a0 a1 a2 a3 a4 a5 g b0 b1 cI fi la B G pr) H := hP
                    have hD : va_D A (ppW q h a0 a1 a2 a3 a4 a5 g b0 b1 cI fi la B G pr) := hD
                    refine W.eq (g2 := F0 m 507 ls [.int (nI (hs kx))]) rfl ?_
                    refine lv_iload hx hb dL_isEntrySo_507 (lv_at hl 2 rfl) ?_
                    refine lv_icmp_ne (tgt := 516) hx hb dL_isEntrySo_509 (by decide) (fun c9 => absurd ((nI_eq (a := (hs kx)) (b := (min ge L)) (by omega) (by omega)).mpr (by omega)) c9) (fun _ => ?_)
                    refine lv_iconst (v := 1) hx hb dL_isEntrySo_512 (by decide) ?_
                    refine lv_goto (tgt := 517) hx hb dL_isEntrySo_513 (by decide) ?_
                    exact pq_zret hQ hx hb hr hlocks hK hS hP hD dL_isEntrySo_517 (by omega) (by omega) (by decide) (⟨rfl, rfl⟩)
                refine lv_iload_n hx hb dL_isEntrySo_310 rfl (lv_at hl 6 rfl) ?_
                by_cases k_23 : tr2 = 0
                · refine lv_if_eq (tgt := 366) hx hb dL_isEntrySo_311 (by decide) (fun _ => ?_) (fun c9 => absurd ((nI_eq (a := tr2) (b := 0) (by omega) (by omega)).mpr (by omega)) c9)
                  exact J15 H locs ls hP hD hS hl
                · refine lv_if_eq (tgt := 366) hx hb dL_isEntrySo_311 (by decide) (fun c9 => absurd c9 (mt (nI_eq (a := tr2) (b := 0) (by omega) (by omega)).mp (by omega))) (fun _ => ?_)
                  obtain ⟨tq1, tq2, tq3, hsl⟩ := cm6 (htr2 (by omega))
                  refine lv_iload hx hb dL_isEntrySo_314 (lv_at hl 0 rfl) ?_
                  refine lv_if_eq (tgt := 363) hx hb dL_isEntrySo_316 (by decide) (fun c9 => absurd c9 (by decide)) (fun _ => ?_)
                  refine lv_aload_n hx hb dL_isEntrySo_319 rfl (lv_at hl 11 rfl) ?_
                  refine lv_iload_n hx hb dL_isEntrySo_320 rfl (lv_at hl 10 rfl) ?_
                  refine pq_callV (wr := []) (own := RL) (nL := 14) (q0 := 0) (ci := 2) [0, 1, 2, 3, 4, 5, 6, 7, 8, 9, 10] [] [.int (nI e)] (f_greatest l D cI q h a0 a1 a2 a3 a4 a5 g b0 b1 I (ke := e) hXE (x := ge) hge) ⟨hx, hb, hml, hown, hts⟩ (cwV 1 hts gL_isEntrySo_X2_greatest rfl rfl rfl (by decide +kernel) ⟨by dsimp only [pq_R]; omega, by dsimp only [pq_R]; omega⟩) pq_blE (hE.call hD hS hA [0, 1, 2, 3, 4, 5, 6, 7, 8, 9, 10] rfl) hK hP hD hS hA rfl (by decide) rfl (by decide) (by decide) rfl rfl rfl rfl hl.1 rfl (Nat.le_of_ble_eq_true rfl) dL_isEntrySo_321 ⟨by dsimp only [pq_R]; omega, by dsimp only [pq_R]; omega⟩ (fun v w1 H locs hq hP hD hS hz => ?_)
                  obtain ⟨rfl, rfl⟩ := hq
                  have hP : va_P D vwCl (ppW q h a0 a1 a2 a3 a4 a5 g b0 b1 cI fi la B G pr) H := hP
                  have hD : va_D A (ppW q h a0 a1 a2 a3 a4 a5 g b0 b1 cI fi la B G pr) := hD
                  refine W.eq (g2 := F0 m 324 ls [.int (nI ge)]) rfl ?_
                  refine lv_iload hx hb dL_isEntrySo_324 (lv_at hl 5 rfl) ?_
                  refine lv_icmp_ne (tgt := 363) hx hb dL_isEntrySo_326 (by decide) (fun c9 => absurd ((nI_eq (a := ge) (b := mo) (by omega) (by omega)).mpr (by omega)) c9) (fun _ => ?_)
                  refine lv_aload_n hx hb dL_isEntrySo_329 rfl (lv_at hl 11 rfl) ?_
                  refine lv_iload_n hx hb dL_isEntrySo_330 rfl (lv_at hl 10 rfl) ?_
                  refine pq_callV (wr := []) (own := RL) (nL := 14) (q0 := 0) (ci := 2) [0, 1, 2, 3, 4, 5, 6, 7, 8, 9, 10] [] [.int (nI e)] (f_noted l D cI q h a0 a1 a2 a3 a4 a5 g b0 b1 I (ke := e) hXE (x := ue) hue) ⟨hx, hb, hml, hown, hts⟩ (cwV 1 hts gL_isEntrySo_X2_noted rfl rfl rfl (by decide +kernel) ⟨by dsimp only [pq_R]; omega, by dsimp only [pq_R]; omega⟩) pq_blE (hE.call hD hS hA [0, 1, 2, 3, 4, 5, 6, 7, 8, 9, 10] rfl) hK hP hD hS hA rfl (by decide) rfl (by decide) (by decide) rfl rfl rfl rfl hl.1 rfl (Nat.le_of_ble_eq_true rfl) dL_isEntrySo_331 ⟨by dsimp only [pq_R]; omega, by dsimp only [pq_R]; omega⟩ (fun v w1 H locs hq hP hD hS hz => ?_)
                  obtain ⟨rfl, rfl⟩ := hq
                  have hP : va_P D vwCl (ppW q h a0 a1 a2 a3 a4 a5 g b0 b1 cI fi la B G pr) H := hP
                  have hD : va_D A (ppW q h a0 a1 a2 a3 a4 a5 g b0 b1 cI fi la B G pr) := hD
                  refine W.eq (g2 := F0 m 334 ls [.int (nI ue)]) rfl ?_
                  refine lv_iload hx hb dL_isEntrySo_334 (lv_at hl 2 rfl) ?_
                  refine lv_icmp_ne (tgt := 363) hx hb dL_isEntrySo_336 (by decide) (fun c9 => absurd ((nI_eq (a := ue) (b := (nSum hs (slo N e) 0 ((shi N e - 1) + 1 - (slo N e)))) (by omega) (by omega)).mpr (by omega)) c9) (fun _ => ?_)
                  refine lv_aload_n hx hb dL_isEntrySo_339 rfl (lv_at hl 11 rfl) ?_
                  refine lv_iload_n hx hb dL_isEntrySo_340 rfl (lv_at hl 10 rfl) ?_
                  refine pq_callV (wr := []) (own := RL) (nL := 14) (q0 := 0) (ci := 2) [0, 1, 2, 3, 4, 5, 6, 7, 8, 9, 10] [] [.int (nI e)] (f_many l D cI q h a0 a1 a2 a3 a4 a5 g b0 b1 I (ke := e) hXE (x := me) hme) ⟨hx, hb, hml, hown, hts⟩ (cwV 1 hts gL_isEntrySo_X2_many rfl rfl rfl (by decide +kernel) ⟨by dsimp only [pq_R]; omega, by dsimp only [pq_R]; omega⟩) pq_blE (hE.call hD hS hA [0, 1, 2, 3, 4, 5, 6, 7, 8, 9, 10] rfl) hK hP hD hS hA rfl (by decide) rfl (by decide) (by decide) rfl rfl rfl rfl hl.1 rfl (Nat.le_of_ble_eq_true rfl) dL_isEntrySo_341 ⟨by dsimp only [pq_R]; omega, by dsimp only [pq_R]; omega⟩ (fun v w1 H locs hq hP hD hS hz => ?_)
                  obtain ⟨rfl, rfl⟩ := hq
                  have hP : va_P D vwCl (ppW q h a0 a1 a2 a3 a4 a5 g b0 b1 cI fi la B G pr) H := hP
                  have hD : va_D A (ppW q h a0 a1 a2 a3 a4 a5 g b0 b1 cI fi la B G pr) := hD
                  refine W.eq (g2 := F0 m 344 ls [.int (nI me)]) rfl ?_
                  refine lv_iload hx hb dL_isEntrySo_344 (lv_at hl 3 rfl) ?_
                  refine lv_icmp_ne (tgt := 363) hx hb dL_isEntrySo_346 (by decide) (fun c9 => absurd ((nI_eq (a := me) (b := mn) (by omega) (by omega)).mpr (by omega)) c9) (fun _ => ?_)
                  refine lv_aload_n hx hb dL_isEntrySo_349 rfl (lv_at hl 11 rfl) ?_
                  refine lv_iload_n hx hb dL_isEntrySo_350 rfl (lv_at hl 10 rfl) ?_
                  refine pq_callV (wr := []) (own := RL) (nL := 14) (q0 := 0) (ci := 2) [0, 1, 2, 3, 4, 5, 6, 7, 8, 9, 10] [] [.int (nI e)] (f_second l D cI q h a0 a1 a2 a3 a4 a5 g b0 b1 I (ke := e) hXE (x := se) hse) ⟨hx, hb, hml, hown, hts⟩ (cwV 1 hts gL_isEntrySo_X2_second rfl rfl rfl (by decide +kernel) ⟨by dsimp only [pq_R]; omega, by dsimp only [pq_R]; omega⟩) pq_blE (hE.call hD hS hA [0, 1, 2, 3, 4, 5, 6, 7, 8, 9, 10] rfl) hK hP hD hS hA rfl (by decide) rfl (by decide) (by decide) rfl rfl rfl rfl hl.1 rfl (Nat.le_of_ble_eq_true rfl) dL_isEntrySo_351 ⟨by dsimp only [pq_R]; omega, by dsimp only [pq_R]; omega⟩ (fun v w1 H locs hq hP hD hS hz => ?_)
                  obtain ⟨rfl, rfl⟩ := hq
                  have hP : va_P D vwCl (ppW q h a0 a1 a2 a3 a4 a5 g b0 b1 cI fi la B G pr) H := hP
                  have hD : va_D A (ppW q h a0 a1 a2 a3 a4 a5 g b0 b1 cI fi la B G pr) := hD
                  refine W.eq (g2 := F0 m 354 ls [.int (nI se - 1)]) rfl ?_
                  refine lv_iload hx hb dL_isEntrySo_354 (lv_at hl 4 rfl) ?_
                  refine lv_icmp_ne (tgt := 363) hx hb dL_isEntrySo_356 (by decide) (fun c9 => absurd (by rw [hsl]) c9) (fun _ => ?_)
                  refine lv_iconst (v := 1) hx hb dL_isEntrySo_359 (by decide) ?_
                  refine lv_goto (tgt := 364) hx hb dL_isEntrySo_360 (by decide) ?_
                  refine lv_istore (lv' := [(4, .int 1), (5, .int (nI (min ge L))), (12, .int (nI (nSum hs (slo N e) 0 ((shi N e - 1) + 1 - (slo N e))))), (11, .int (nI mn)), (10, .int (nI lw - 1)), (9, .int (nI mo)), (3, .int (nI tr2)), (8, .int (nI (shi N e - 1))), (7, .int (nI (slo N e))), (6, .int 1), (2, .int (nI e)), (0, .ref q), (1, .int (nI kx))]) hx hb dL_isEntrySo_364 hl (by decide) rfl (fun ls hl => ?_)
                  exact J15 H locs ls hP hD hS hl
              rcases Nat.lt_or_ge ge L with k_28 | k_28
              · refine lv_icmp_ge (tgt := 242) hx hb dL_isEntrySo_231 (by decide) (fun c9 => absurd c9 ((nI_ge (a := ge) (b := L) k_28 (by omega)))) (fun _ => ?_)
                refine lv_aload_n hx hb dL_isEntrySo_234 rfl (lv_at hl 11 rfl) ?_
                refine lv_iload_n hx hb dL_isEntrySo_235 rfl (lv_at hl 10 rfl) ?_
                refine pq_callV (wr := []) (own := RL) (nL := 14) (q0 := 0) (ci := 2) [0, 1, 2, 3, 4, 5, 6, 7, 8, 9, 10] [] [.int (nI e)] (f_greatest l D cI q h a0 a1 a2 a3 a4 a5 g b0 b1 I (ke := e) hXE (x := ge) hge) ⟨hx, hb, hml, hown, hts⟩ (cwV 1 hts gL_isEntrySo_X2_greatest rfl rfl rfl (by decide +kernel) ⟨by dsimp only [pq_R]; omega, by dsimp only [pq_R]; omega⟩) pq_blE (hE.call hD hS hA [0, 1, 2, 3, 4, 5, 6, 7, 8, 9, 10] rfl) hK hP hD hS hA rfl (by decide) rfl (by decide) (by decide) rfl rfl rfl rfl hl.1 rfl (Nat.le_of_ble_eq_true rfl) dL_isEntrySo_236 ⟨by dsimp only [pq_R]; omega, by dsimp only [pq_R]; omega⟩ (fun v w1 H locs hq hP hD hS hz => ?_)
                obtain ⟨rfl, rfl⟩ := hq
                have hP : va_P D vwCl (ppW q h a0 a1 a2 a3 a4 a5 g b0 b1 cI fi la B G pr) H := hP
                have hD : va_D A (ppW q h a0 a1 a2 a3 a4 a5 g b0 b1 cI fi la B G pr) := hD
                refine W.eq (g2 := F0 m 239 ls [.int (nI ge)]) rfl ?_
                refine lv_goto (tgt := 244) hx hb dL_isEntrySo_239 (by decide) ?_
                refine pq_top (nI (min ge L)) (congrArg nI (by omega)) ?_
                exact J8 H locs ls hP hD hS hl
              · refine lv_icmp_ge (tgt := 242) hx hb dL_isEntrySo_231 (by decide) (fun _ => ?_) (fun c9 => absurd ((nI_le (a := L) (b := ge) k_28 (by omega))) c9)
                refine lv_iload hx hb dL_isEntrySo_242 (lv_at hl 8 rfl) ?_
                refine pq_top (nI (min ge L)) (congrArg nI (by omega)) ?_
                exact J8 H locs ls hP hD hS hl
            · refine lv_icmp_gt (tgt := 214) hx hb dL_isEntrySo_94 (by decide) (fun c9 => absurd c9 ((nI_nlt (a := (shi N e - 1)) (b := kk) k_5 (by omega)))) (fun _ => ?_)
              refine lv_aload_n hx hb dL_isEntrySo_97 rfl (lv_at hl 11 rfl) ?_
              refine lv_iload hx hb dL_isEntrySo_98 (lv_at hl 0 rfl) ?_
              refine pq_callV (wr := []) (own := RL) (nL := 14) (q0 := 0) (ci := 2) [0, 1, 2, 3, 4, 5, 6, 7, 8, 9, 10] [] [.int (nI kk)] (f_heightOfColumn l D cI q h a0 a1 a2 a3 a4 a5 g b0 b1 I (kx := kk) (by omega)) ⟨hx, hb, hml, hown, hts⟩ (cwV 1 hts gL_isEntrySo_X2_heightOfColumn rfl rfl rfl (by decide +kernel) ⟨by dsimp only [pq_R]; omega, by dsimp only [pq_R]; omega⟩) pq_blE (hE.call hD hS hA [0, 1, 2, 3, 4, 5, 6, 7, 8, 9, 10] rfl) hK hP hD hS hA rfl (by decide) rfl (by decide) (by decide) rfl rfl rfl rfl hl.1 rfl (Nat.le_of_ble_eq_true rfl) dL_isEntrySo_100 ⟨by dsimp only [pq_R]; omega, by dsimp only [pq_R]; omega⟩ (fun v w1 H locs hq hP hD hS hz => ?_)
              obtain ⟨rfl, rfl⟩ := hq
              have b_30 := (I.2.2.2.2.2.2.1 kk (by omega)).1
              have hP : va_P D vwCl (ppW q h a0 a1 a2 a3 a4 a5 g b0 b1 cI fi la B G pr) H := hP
              have hD : va_D A (ppW q h a0 a1 a2 a3 a4 a5 g b0 b1 cI fi la B G pr) := hD
              refine W.eq (g2 := F0 m 103 ls [.int (nI (hs kk))]) rfl ?_
              refine lv_istore (lv' := [(13, .int (nI (hs kk))), (12, .int (nI kk)), (11, .int (nI mn)), (10, .int (nI lw - 1)), (9, .int (nI mo)), (3, .int (nI tr2)), (8, .int (nI (shi N e - 1))), (7, .int (nI (slo N e))), (6, .int 1), (5, .int (nI L)), (4, .int 1), (2, .int (nI e)), (0, .ref q), (1, .int (nI kx))]) hx hb dL_isEntrySo_103 hl (by decide) rfl (fun ls hl => ?_)
              obtain ⟨hb1, hb2, hb3⟩ := Tl_b (b := 1000) hT (fun k _ z => (I.2.2.2.2.2.2.1 k (by omega)).1)
              obtain ⟨hm1, hm2⟩ := Tl_mn hT
              rcases (show (mo < hs kk ∧ 0 < mn) ∨ (mo < hs kk ∧ mn = 0) ∨ (hs kk ≤ mo ∧ kk = slo N e) ∨ (hs kk = mo ∧ kk ≠ slo N e) ∨ (hs kk < mo ∧ lw ≤ hs kk ∧ kk ≠ slo N e) ∨ (hs kk < mo ∧ hs kk < lw ∧ kk ≠ slo N e) by omega) with hc | hc | hc | hc | hc | hc
              · refine lv_iload hx hb dL_isEntrySo_105 (lv_at hl 0 rfl) ?_
                refine lv_iload hx hb dL_isEntrySo_107 (lv_at hl 4 rfl) ?_
                refine lv_icmp_le (tgt := 127) hx hb dL_isEntrySo_109 (by decide) (fun c9 => absurd c9 (nI_ge (a := mo) (b := (hs kk)) (by omega) (by omega))) (fun _ => ?_)
                refine lv_iload hx hb dL_isEntrySo_112 (lv_at hl 2 rfl) ?_
                refine lv_if_le (tgt := 122) hx hb dL_isEntrySo_114 (by decide) (fun c9 => absurd c9 (nI_ge (a := 0) (b := mn) (by omega) (by omega))) (fun _ => ?_)
                refine lv_iload hx hb dL_isEntrySo_117 (lv_at hl 4 rfl) ?_
                refine lv_goto (tgt := 148) hx hb dL_isEntrySo_119 (by decide) ?_
                refine pq_top (nI (mo + 1) - 1) (nI_pred _).symm ?_
                refine lv_istore (lv' := [(10, .int (nI (mo + 1) - 1)), (13, .int (nI (hs kk))), (12, .int (nI kk)), (11, .int (nI mn)), (9, .int (nI mo)), (3, .int (nI tr2)), (8, .int (nI (shi N e - 1))), (7, .int (nI (slo N e))), (6, .int 1), (5, .int (nI L)), (4, .int 1), (2, .int (nI e)), (0, .ref q), (1, .int (nI kx))]) hx hb dL_isEntrySo_148 hl (by decide) rfl (fun ls hl => ?_)
                refine lv_iload hx hb dL_isEntrySo_150 (lv_at hl 1 rfl) ?_
                refine lv_iload hx hb dL_isEntrySo_152 (lv_at hl 4 rfl) ?_
                refine lv_icmp_gt (tgt := 164) hx hb dL_isEntrySo_154 (by decide) (fun _ => ?_) (fun c9 => absurd (nI_lt (a := mo) (b := (hs kk)) (by omega) (by omega)) c9)
                refine lv_iconst (v := 1) hx hb dL_isEntrySo_164 (by decide) ?_
                refine lv_goto (tgt := 183) hx hb dL_isEntrySo_165 (by decide) ?_
                refine lv_istore (lv' := [(11, .int 1), (10, .int (nI (mo + 1) - 1)), (13, .int (nI (hs kk))), (12, .int (nI kk)), (9, .int (nI mo)), (3, .int (nI tr2)), (8, .int (nI (shi N e - 1))), (7, .int (nI (slo N e))), (6, .int 1), (5, .int (nI L)), (4, .int 1), (2, .int (nI e)), (0, .ref q), (1, .int (nI kx))]) hx hb dL_isEntrySo_183 hl (by decide) rfl (fun ls hl => ?_)
                refine lv_iload hx hb dL_isEntrySo_185 (lv_at hl 2 rfl) ?_
                refine lv_iload hx hb dL_isEntrySo_187 (lv_at hl 4 rfl) ?_
                refine lv_icmp_gt (tgt := 199) hx hb dL_isEntrySo_189 (by decide) (fun _ => ?_) (fun c9 => absurd (nI_lt (a := mo) (b := (hs kk)) (by omega) (by omega)) c9)
                refine lv_iload hx hb dL_isEntrySo_199 (lv_at hl 2 rfl) ?_
                refine lv_goto (tgt := 206) hx hb dL_isEntrySo_201 (by decide) ?_
                refine lv_istore (lv' := [(9, .int (nI (hs kk))), (11, .int 1), (10, .int (nI (mo + 1) - 1)), (13, .int (nI (hs kk))), (12, .int (nI kk)), (3, .int (nI tr2)), (8, .int (nI (shi N e - 1))), (7, .int (nI (slo N e))), (6, .int 1), (5, .int (nI L)), (4, .int 1), (2, .int (nI e)), (0, .ref q), (1, .int (nI kx))]) hx hb dL_isEntrySo_206 hl (by decide) rfl (fun ls hl => ?_)
                refine lv_iinc (v := nI (kk + 1)) (lv' := [(12, .int (nI (kk + 1))), (9, .int (nI (hs kk))), (11, .int 1), (10, .int (nI (mo + 1) - 1)), (13, .int (nI (hs kk))), (3, .int (nI tr2)), (8, .int (nI (shi N e - 1))), (7, .int (nI (slo N e))), (6, .int 1), (5, .int (nI L)), (4, .int 1), (2, .int (nI e)), (0, .ref q), (1, .int (nI kx))]) hx hb dL_isEntrySo_208 hl (k := 4) rfl (nI_add _ 1) (by decide) rfl (fun ls hl => ?_)
                refine lv_goto (tgt := 90) hx hb dL_isEntrySo_211 (by decide) ?_
                exact ihLQ (kk + 1) (mo + 1) 1 (hs kk) (by omega) (by omega) (by omega) (by have z := Tl_A (x := hs kk) hT (by rw [show slo N e + (kk - slo N e) = kk by omega]) (by omega) (by omega); rw [show kk - slo N e + 1 = kk + 1 - slo N e by omega] at z; exact z) H locs ls hP hD hS (lv_sub hl [0, 2, 3, 1, 5, 6, 7, 8, 9, 10, 11, 12, 13] rfl)
              · refine lv_iload hx hb dL_isEntrySo_105 (lv_at hl 0 rfl) ?_
                refine lv_iload hx hb dL_isEntrySo_107 (lv_at hl 4 rfl) ?_
                refine lv_icmp_le (tgt := 127) hx hb dL_isEntrySo_109 (by decide) (fun c9 => absurd c9 (nI_ge (a := mo) (b := (hs kk)) (by omega) (by omega))) (fun _ => ?_)
                refine lv_iload hx hb dL_isEntrySo_112 (lv_at hl 2 rfl) ?_
                refine lv_if_le (tgt := 122) hx hb dL_isEntrySo_114 (by decide) (fun _ => ?_) (fun c9 => absurd (nI_le (a := mn) (b := 0) (by omega) (by omega)) c9)
                refine lv_iload hx hb dL_isEntrySo_122 (lv_at hl 3 rfl) ?_
                refine lv_goto (tgt := 148) hx hb dL_isEntrySo_124 (by decide) ?_
                refine lv_istore (lv' := [(10, .int (nI lw - 1)), (13, .int (nI (hs kk))), (12, .int (nI kk)), (11, .int (nI mn)), (9, .int (nI mo)), (3, .int (nI tr2)), (8, .int (nI (shi N e - 1))), (7, .int (nI (slo N e))), (6, .int 1), (5, .int (nI L)), (4, .int 1), (2, .int (nI e)), (0, .ref q), (1, .int (nI kx))]) hx hb dL_isEntrySo_148 hl (by decide) rfl (fun ls hl => ?_)
                refine lv_iload hx hb dL_isEntrySo_150 (lv_at hl 1 rfl) ?_
                refine lv_iload hx hb dL_isEntrySo_152 (lv_at hl 4 rfl) ?_
                refine lv_icmp_gt (tgt := 164) hx hb dL_isEntrySo_154 (by decide) (fun _ => ?_) (fun c9 => absurd (nI_lt (a := mo) (b := (hs kk)) (by omega) (by omega)) c9)
                refine lv_iconst (v := 1) hx hb dL_isEntrySo_164 (by decide) ?_
                refine lv_goto (tgt := 183) hx hb dL_isEntrySo_165 (by decide) ?_
                refine lv_istore (lv' := [(11, .int 1), (10, .int (nI lw - 1)), (13, .int (nI (hs kk))), (12, .int (nI kk)), (9, .int (nI mo)), (3, .int (nI tr2)), (8, .int (nI (shi N e - 1))), (7, .int (nI (slo N e))), (6, .int 1), (5, .int (nI L)), (4, .int 1), (2, .int (nI e)), (0, .ref q), (1, .int (nI kx))]) hx hb dL_isEntrySo_183 hl (by decide) rfl (fun ls hl => ?_)
                refine lv_iload hx hb dL_isEntrySo_185 (lv_at hl 2 rfl) ?_
                refine lv_iload hx hb dL_isEntrySo_187 (lv_at hl 4 rfl) ?_
                refine lv_icmp_gt (tgt := 199) hx hb dL_isEntrySo_189 (by decide) (fun _ => ?_) (fun c9 => absurd (nI_lt (a := mo) (b := (hs kk)) (by omega) (by omega)) c9)
                refine lv_iload hx hb dL_isEntrySo_199 (lv_at hl 2 rfl) ?_
                refine lv_goto (tgt := 206) hx hb dL_isEntrySo_201 (by decide) ?_
                refine lv_istore (lv' := [(9, .int (nI (hs kk))), (11, .int 1), (10, .int (nI lw - 1)), (13, .int (nI (hs kk))), (12, .int (nI kk)), (3, .int (nI tr2)), (8, .int (nI (shi N e - 1))), (7, .int (nI (slo N e))), (6, .int 1), (5, .int (nI L)), (4, .int 1), (2, .int (nI e)), (0, .ref q), (1, .int (nI kx))]) hx hb dL_isEntrySo_206 hl (by decide) rfl (fun ls hl => ?_)
                refine lv_iinc (v := nI (kk + 1)) (lv' := [(12, .int (nI (kk + 1))), (9, .int (nI (hs kk))), (11, .int 1), (10, .int (nI lw - 1)), (13, .int (nI (hs kk))), (3, .int (nI tr2)), (8, .int (nI (shi N e - 1))), (7, .int (nI (slo N e))), (6, .int 1), (5, .int (nI L)), (4, .int 1), (2, .int (nI e)), (0, .ref q), (1, .int (nI kx))]) hx hb dL_isEntrySo_208 hl (k := 4) rfl (nI_add _ 1) (by decide) rfl (fun ls hl => ?_)
                refine lv_goto (tgt := 90) hx hb dL_isEntrySo_211 (by decide) ?_
                exact ihLQ (kk + 1) lw 1 (hs kk) (by omega) (by omega) (by omega) (by have z := Tl_A0 (x := hs kk) hT (by rw [show slo N e + (kk - slo N e) = kk by omega]) (by omega); rw [show kk - slo N e + 1 = kk + 1 - slo N e by omega] at z; exact z) H locs ls hP hD hS (lv_sub hl [0, 2, 3, 1, 5, 6, 7, 8, 9, 10, 11, 12, 13] rfl)
              · obtain ⟨hz1, hz2, hz3⟩ := hm2 (by omega)
                refine lv_iload hx hb dL_isEntrySo_105 (lv_at hl 0 rfl) ?_
                refine lv_iload hx hb dL_isEntrySo_107 (lv_at hl 4 rfl) ?_
                refine lv_icmp_le (tgt := 127) hx hb dL_isEntrySo_109 (by decide) (fun _ => ?_) (fun c9 => absurd (nI_le (a := (hs kk)) (b := mo) (by omega) (by omega)) c9)
                refine lv_iload hx hb dL_isEntrySo_127 (lv_at hl 0 rfl) ?_
                refine lv_iload hx hb dL_isEntrySo_129 (lv_at hl 4 rfl) ?_
                refine lv_icmp_ge (tgt := 146) hx hb dL_isEntrySo_131 (by decide) (fun _ => ?_) (fun c9 => absurd (nI_le (a := mo) (b := (hs kk)) (by omega) (by omega)) c9)
                refine lv_iload hx hb dL_isEntrySo_146 (lv_at hl 3 rfl) ?_
                refine lv_istore (lv' := [(10, .int (nI lw - 1)), (13, .int (nI (hs kk))), (12, .int (nI kk)), (11, .int (nI mn)), (9, .int (nI mo)), (3, .int (nI tr2)), (8, .int (nI (shi N e - 1))), (7, .int (nI (slo N e))), (6, .int 1), (5, .int (nI L)), (4, .int 1), (2, .int (nI e)), (0, .ref q), (1, .int (nI kx))]) hx hb dL_isEntrySo_148 hl (by decide) rfl (fun ls hl => ?_)
                refine lv_iload hx hb dL_isEntrySo_150 (lv_at hl 1 rfl) ?_
                refine lv_iload hx hb dL_isEntrySo_152 (lv_at hl 4 rfl) ?_
                refine lv_icmp_gt (tgt := 164) hx hb dL_isEntrySo_154 (by decide) (fun c9 => absurd c9 (nI_nlt (a := mo) (b := (hs kk)) (by omega) (by omega))) (fun _ => ?_)
                refine lv_iload hx hb dL_isEntrySo_157 (lv_at hl 2 rfl) ?_
                refine lv_iload hx hb dL_isEntrySo_159 (lv_at hl 7 rfl) ?_
                refine lv_icmp_ne (tgt := 168) hx hb dL_isEntrySo_161 (by decide) (fun c9 => absurd ((nI_eq (a := kk) (b := (slo N e)) (by omega) (by omega)).mpr (by omega)) c9) (fun _ => ?_)
                refine lv_iconst (v := 1) hx hb dL_isEntrySo_164 (by decide) ?_
                refine lv_goto (tgt := 183) hx hb dL_isEntrySo_165 (by decide) ?_
                refine lv_istore (lv' := [(11, .int 1), (10, .int (nI lw - 1)), (13, .int (nI (hs kk))), (12, .int (nI kk)), (9, .int (nI mo)), (3, .int (nI tr2)), (8, .int (nI (shi N e - 1))), (7, .int (nI (slo N e))), (6, .int 1), (5, .int (nI L)), (4, .int 1), (2, .int (nI e)), (0, .ref q), (1, .int (nI kx))]) hx hb dL_isEntrySo_183 hl (by decide) rfl (fun ls hl => ?_)
                refine lv_iload hx hb dL_isEntrySo_185 (lv_at hl 2 rfl) ?_
                refine lv_iload hx hb dL_isEntrySo_187 (lv_at hl 4 rfl) ?_
                refine lv_icmp_gt (tgt := 199) hx hb dL_isEntrySo_189 (by decide) (fun c9 => absurd c9 (nI_nlt (a := mo) (b := (hs kk)) (by omega) (by omega))) (fun _ => ?_)
                refine lv_iload hx hb dL_isEntrySo_192 (lv_at hl 3 rfl) ?_
                refine lv_iload hx hb dL_isEntrySo_194 (lv_at hl 7 rfl) ?_
                refine lv_icmp_ne (tgt := 204) hx hb dL_isEntrySo_196 (by decide) (fun c9 => absurd ((nI_eq (a := kk) (b := (slo N e)) (by omega) (by omega)).mpr (by omega)) c9) (fun _ => ?_)
                refine lv_iload hx hb dL_isEntrySo_199 (lv_at hl 2 rfl) ?_
                refine lv_goto (tgt := 206) hx hb dL_isEntrySo_201 (by decide) ?_
                refine lv_istore (lv' := [(9, .int (nI (hs kk))), (11, .int 1), (10, .int (nI lw - 1)), (13, .int (nI (hs kk))), (12, .int (nI kk)), (3, .int (nI tr2)), (8, .int (nI (shi N e - 1))), (7, .int (nI (slo N e))), (6, .int 1), (5, .int (nI L)), (4, .int 1), (2, .int (nI e)), (0, .ref q), (1, .int (nI kx))]) hx hb dL_isEntrySo_206 hl (by decide) rfl (fun ls hl => ?_)
                refine lv_iinc (v := nI (kk + 1)) (lv' := [(12, .int (nI (kk + 1))), (9, .int (nI (hs kk))), (11, .int 1), (10, .int (nI lw - 1)), (13, .int (nI (hs kk))), (3, .int (nI tr2)), (8, .int (nI (shi N e - 1))), (7, .int (nI (slo N e))), (6, .int 1), (5, .int (nI L)), (4, .int 1), (2, .int (nI e)), (0, .ref q), (1, .int (nI kx))]) hx hb dL_isEntrySo_208 hl (k := 4) rfl (nI_add _ 1) (by decide) rfl (fun ls hl => ?_)
                refine lv_goto (tgt := 90) hx hb dL_isEntrySo_211 (by decide) ?_
                exact ihLQ (kk + 1) lw 1 (hs kk) (by omega) (by omega) (by omega) (by have z := Tl_A0 (x := hs kk) hT (by rw [show slo N e + (kk - slo N e) = kk by omega]) (by omega); rw [show kk - slo N e + 1 = kk + 1 - slo N e by omega] at z; exact z) H locs ls hP hD hS (lv_sub hl [0, 2, 3, 1, 5, 6, 7, 8, 9, 10, 11, 12, 13] rfl)
              · refine lv_iload hx hb dL_isEntrySo_105 (lv_at hl 0 rfl) ?_
                refine lv_iload hx hb dL_isEntrySo_107 (lv_at hl 4 rfl) ?_
                refine lv_icmp_le (tgt := 127) hx hb dL_isEntrySo_109 (by decide) (fun _ => ?_) (fun c9 => absurd (nI_le (a := (hs kk)) (b := mo) (by omega) (by omega)) c9)
                refine lv_iload hx hb dL_isEntrySo_127 (lv_at hl 0 rfl) ?_
                refine lv_iload hx hb dL_isEntrySo_129 (lv_at hl 4 rfl) ?_
                refine lv_icmp_ge (tgt := 146) hx hb dL_isEntrySo_131 (by decide) (fun _ => ?_) (fun c9 => absurd (nI_le (a := mo) (b := (hs kk)) (by omega) (by omega)) c9)
                refine lv_iload hx hb dL_isEntrySo_146 (lv_at hl 3 rfl) ?_
                refine lv_istore (lv' := [(10, .int (nI lw - 1)), (13, .int (nI (hs kk))), (12, .int (nI kk)), (11, .int (nI mn)), (9, .int (nI mo)), (3, .int (nI tr2)), (8, .int (nI (shi N e - 1))), (7, .int (nI (slo N e))), (6, .int 1), (5, .int (nI L)), (4, .int 1), (2, .int (nI e)), (0, .ref q), (1, .int (nI kx))]) hx hb dL_isEntrySo_148 hl (by decide) rfl (fun ls hl => ?_)
                refine lv_iload hx hb dL_isEntrySo_150 (lv_at hl 1 rfl) ?_
                refine lv_iload hx hb dL_isEntrySo_152 (lv_at hl 4 rfl) ?_
                refine lv_icmp_gt (tgt := 164) hx hb dL_isEntrySo_154 (by decide) (fun c9 => absurd c9 (nI_nlt (a := mo) (b := (hs kk)) (by omega) (by omega))) (fun _ => ?_)
                refine lv_iload hx hb dL_isEntrySo_157 (lv_at hl 2 rfl) ?_
                refine lv_iload hx hb dL_isEntrySo_159 (lv_at hl 7 rfl) ?_
                refine lv_icmp_ne (tgt := 168) hx hb dL_isEntrySo_161 (by decide) (fun _ => ?_) (fun c9 => absurd c9 (mt (nI_eq (a := kk) (b := (slo N e)) (by omega) (by omega)).mp (by omega)))
                refine lv_iload hx hb dL_isEntrySo_168 (lv_at hl 3 rfl) ?_
                refine lv_iload hx hb dL_isEntrySo_170 (lv_at hl 1 rfl) ?_
                refine lv_iload hx hb dL_isEntrySo_172 (lv_at hl 4 rfl) ?_
                refine lv_icmp_ne (tgt := 181) hx hb dL_isEntrySo_174 (by decide) (fun c9 => absurd ((nI_eq (a := (hs kk)) (b := mo) (by omega) (by omega)).mpr (by omega)) c9) (fun _ => ?_)
                refine lv_iconst (v := 1) hx hb dL_isEntrySo_177 (by decide) ?_
                refine lv_goto (tgt := 182) hx hb dL_isEntrySo_178 (by decide) ?_
                refine lv_iadd hx hb dL_isEntrySo_182 ?_
                refine pq_top (nI (mn + 1)) (nI_1 _) ?_
                refine lv_istore (lv' := [(11, .int (nI (mn + 1))), (10, .int (nI lw - 1)), (13, .int (nI (hs kk))), (12, .int (nI kk)), (9, .int (nI mo)), (3, .int (nI tr2)), (8, .int (nI (shi N e - 1))), (7, .int (nI (slo N e))), (6, .int 1), (5, .int (nI L)), (4, .int 1), (2, .int (nI e)), (0, .ref q), (1, .int (nI kx))]) hx hb dL_isEntrySo_183 hl (by decide) rfl (fun ls hl => ?_)
                refine lv_iload hx hb dL_isEntrySo_185 (lv_at hl 2 rfl) ?_
                refine lv_iload hx hb dL_isEntrySo_187 (lv_at hl 4 rfl) ?_
                refine lv_icmp_gt (tgt := 199) hx hb dL_isEntrySo_189 (by decide) (fun c9 => absurd c9 (nI_nlt (a := mo) (b := (hs kk)) (by omega) (by omega))) (fun _ => ?_)
                refine lv_iload hx hb dL_isEntrySo_192 (lv_at hl 3 rfl) ?_
                refine lv_iload hx hb dL_isEntrySo_194 (lv_at hl 7 rfl) ?_
                refine lv_icmp_ne (tgt := 204) hx hb dL_isEntrySo_196 (by decide) (fun _ => ?_) (fun c9 => absurd c9 (mt (nI_eq (a := kk) (b := (slo N e)) (by omega) (by omega)).mp (by omega)))
                refine lv_iload hx hb dL_isEntrySo_204 (lv_at hl 4 rfl) ?_
                refine lv_istore (lv' := [(9, .int (nI mo)), (11, .int (nI (mn + 1))), (10, .int (nI lw - 1)), (13, .int (nI (hs kk))), (12, .int (nI kk)), (3, .int (nI tr2)), (8, .int (nI (shi N e - 1))), (7, .int (nI (slo N e))), (6, .int 1), (5, .int (nI L)), (4, .int 1), (2, .int (nI e)), (0, .ref q), (1, .int (nI kx))]) hx hb dL_isEntrySo_206 hl (by decide) rfl (fun ls hl => ?_)
                refine lv_iinc (v := nI (kk + 1)) (lv' := [(12, .int (nI (kk + 1))), (9, .int (nI mo)), (11, .int (nI (mn + 1))), (10, .int (nI lw - 1)), (13, .int (nI (hs kk))), (3, .int (nI tr2)), (8, .int (nI (shi N e - 1))), (7, .int (nI (slo N e))), (6, .int 1), (5, .int (nI L)), (4, .int 1), (2, .int (nI e)), (0, .ref q), (1, .int (nI kx))]) hx hb dL_isEntrySo_208 hl (k := 4) rfl (nI_add _ 1) (by decide) rfl (fun ls hl => ?_)
                refine lv_goto (tgt := 90) hx hb dL_isEntrySo_211 (by decide) ?_
                exact ihLQ (kk + 1) lw (mn + 1) mo (by omega) (by omega) (by omega) (by have z := Tl_C (x := hs kk) hT (by rw [show slo N e + (kk - slo N e) = kk by omega]) (by omega) (by omega); rw [show kk - slo N e + 1 = kk + 1 - slo N e by omega] at z; exact z) H locs ls hP hD hS (lv_sub hl [0, 2, 3, 1, 5, 6, 7, 8, 9, 10, 11, 12, 13] rfl)
              · refine lv_iload hx hb dL_isEntrySo_105 (lv_at hl 0 rfl) ?_
                refine lv_iload hx hb dL_isEntrySo_107 (lv_at hl 4 rfl) ?_
                refine lv_icmp_le (tgt := 127) hx hb dL_isEntrySo_109 (by decide) (fun _ => ?_) (fun c9 => absurd (nI_le (a := (hs kk)) (b := mo) (by omega) (by omega)) c9)
                refine lv_iload hx hb dL_isEntrySo_127 (lv_at hl 0 rfl) ?_
                refine lv_iload hx hb dL_isEntrySo_129 (lv_at hl 4 rfl) ?_
                refine lv_icmp_ge (tgt := 146) hx hb dL_isEntrySo_131 (by decide) (fun c9 => absurd c9 (nI_ge (a := (hs kk)) (b := mo) (by omega) (by omega))) (fun _ => ?_)
                refine lv_iload hx hb dL_isEntrySo_134 (lv_at hl 0 rfl) ?_
                refine lv_iload hx hb dL_isEntrySo_136 (lv_at hl 3 rfl) ?_
                refine lv_icmp_le (tgt := 146) hx hb dL_isEntrySo_138 (by decide) (fun c9 => absurd ((n_le2b (a := (hs kk)) (b := lw) (by omega) (by omega)).mp c9) (by omega)) (fun _ => ?_)
                refine lv_iload hx hb dL_isEntrySo_141 (lv_at hl 0 rfl) ?_
                refine lv_goto (tgt := 148) hx hb dL_isEntrySo_143 (by decide) ?_
                refine pq_top (nI ((hs kk) + 1) - 1) (nI_pred _).symm ?_
                refine lv_istore (lv' := [(10, .int (nI ((hs kk) + 1) - 1)), (13, .int (nI (hs kk))), (12, .int (nI kk)), (11, .int (nI mn)), (9, .int (nI mo)), (3, .int (nI tr2)), (8, .int (nI (shi N e - 1))), (7, .int (nI (slo N e))), (6, .int 1), (5, .int (nI L)), (4, .int 1), (2, .int (nI e)), (0, .ref q), (1, .int (nI kx))]) hx hb dL_isEntrySo_148 hl (by decide) rfl (fun ls hl => ?_)
                refine lv_iload hx hb dL_isEntrySo_150 (lv_at hl 1 rfl) ?_
                refine lv_iload hx hb dL_isEntrySo_152 (lv_at hl 4 rfl) ?_
                refine lv_icmp_gt (tgt := 164) hx hb dL_isEntrySo_154 (by decide) (fun c9 => absurd c9 (nI_nlt (a := mo) (b := (hs kk)) (by omega) (by omega))) (fun _ => ?_)
                refine lv_iload hx hb dL_isEntrySo_157 (lv_at hl 2 rfl) ?_
                refine lv_iload hx hb dL_isEntrySo_159 (lv_at hl 7 rfl) ?_
                refine lv_icmp_ne (tgt := 168) hx hb dL_isEntrySo_161 (by decide) (fun _ => ?_) (fun c9 => absurd c9 (mt (nI_eq (a := kk) (b := (slo N e)) (by omega) (by omega)).mp (by omega)))
                refine lv_iload hx hb dL_isEntrySo_168 (lv_at hl 3 rfl) ?_
                refine lv_iload hx hb dL_isEntrySo_170 (lv_at hl 1 rfl) ?_
                refine lv_iload hx hb dL_isEntrySo_172 (lv_at hl 4 rfl) ?_
                refine lv_icmp_ne (tgt := 181) hx hb dL_isEntrySo_174 (by decide) (fun _ => ?_) (fun c9 => absurd c9 (mt (nI_eq (a := (hs kk)) (b := mo) (by omega) (by omega)).mp (by omega)))
                refine lv_iconst (v := 0) hx hb dL_isEntrySo_181 (by decide) ?_
                refine lv_iadd hx hb dL_isEntrySo_182 ?_
                refine pq_top (nI (mn + 0)) (nI_add _ 0) ?_
                refine lv_istore (lv' := [(11, .int (nI (mn + 0))), (10, .int (nI ((hs kk) + 1) - 1)), (13, .int (nI (hs kk))), (12, .int (nI kk)), (9, .int (nI mo)), (3, .int (nI tr2)), (8, .int (nI (shi N e - 1))), (7, .int (nI (slo N e))), (6, .int 1), (5, .int (nI L)), (4, .int 1), (2, .int (nI e)), (0, .ref q), (1, .int (nI kx))]) hx hb dL_isEntrySo_183 hl (by decide) rfl (fun ls hl => ?_)
                refine lv_iload hx hb dL_isEntrySo_185 (lv_at hl 2 rfl) ?_
                refine lv_iload hx hb dL_isEntrySo_187 (lv_at hl 4 rfl) ?_
                refine lv_icmp_gt (tgt := 199) hx hb dL_isEntrySo_189 (by decide) (fun c9 => absurd c9 (nI_nlt (a := mo) (b := (hs kk)) (by omega) (by omega))) (fun _ => ?_)
                refine lv_iload hx hb dL_isEntrySo_192 (lv_at hl 3 rfl) ?_
                refine lv_iload hx hb dL_isEntrySo_194 (lv_at hl 7 rfl) ?_
                refine lv_icmp_ne (tgt := 204) hx hb dL_isEntrySo_196 (by decide) (fun _ => ?_) (fun c9 => absurd c9 (mt (nI_eq (a := kk) (b := (slo N e)) (by omega) (by omega)).mp (by omega)))
                refine lv_iload hx hb dL_isEntrySo_204 (lv_at hl 4 rfl) ?_
                refine lv_istore (lv' := [(9, .int (nI mo)), (11, .int (nI (mn + 0))), (10, .int (nI ((hs kk) + 1) - 1)), (13, .int (nI (hs kk))), (12, .int (nI kk)), (3, .int (nI tr2)), (8, .int (nI (shi N e - 1))), (7, .int (nI (slo N e))), (6, .int 1), (5, .int (nI L)), (4, .int 1), (2, .int (nI e)), (0, .ref q), (1, .int (nI kx))]) hx hb dL_isEntrySo_206 hl (by decide) rfl (fun ls hl => ?_)
                refine lv_iinc (v := nI (kk + 1)) (lv' := [(12, .int (nI (kk + 1))), (9, .int (nI mo)), (11, .int (nI (mn + 0))), (10, .int (nI ((hs kk) + 1) - 1)), (13, .int (nI (hs kk))), (3, .int (nI tr2)), (8, .int (nI (shi N e - 1))), (7, .int (nI (slo N e))), (6, .int 1), (5, .int (nI L)), (4, .int 1), (2, .int (nI e)), (0, .ref q), (1, .int (nI kx))]) hx hb dL_isEntrySo_208 hl (k := 4) rfl (nI_add _ 1) (by decide) rfl (fun ls hl => ?_)
                refine lv_goto (tgt := 90) hx hb dL_isEntrySo_211 (by decide) ?_
                exact ihLQ (kk + 1) ((hs kk) + 1) (mn + 0) mo (by omega) (by omega) (by omega) (by have z := Tl_D (x := hs kk) hT (by rw [show slo N e + (kk - slo N e) = kk by omega]) (by omega) (by omega) (by omega); rw [show kk - slo N e + 1 = kk + 1 - slo N e by omega] at z; exact z) H locs ls hP hD hS (lv_sub hl [0, 2, 3, 1, 5, 6, 7, 8, 9, 10, 11, 12, 13] rfl)
              · refine lv_iload hx hb dL_isEntrySo_105 (lv_at hl 0 rfl) ?_
                refine lv_iload hx hb dL_isEntrySo_107 (lv_at hl 4 rfl) ?_
                refine lv_icmp_le (tgt := 127) hx hb dL_isEntrySo_109 (by decide) (fun _ => ?_) (fun c9 => absurd (nI_le (a := (hs kk)) (b := mo) (by omega) (by omega)) c9)
                refine lv_iload hx hb dL_isEntrySo_127 (lv_at hl 0 rfl) ?_
                refine lv_iload hx hb dL_isEntrySo_129 (lv_at hl 4 rfl) ?_
                refine lv_icmp_ge (tgt := 146) hx hb dL_isEntrySo_131 (by decide) (fun c9 => absurd c9 (nI_ge (a := (hs kk)) (b := mo) (by omega) (by omega))) (fun _ => ?_)
                refine lv_iload hx hb dL_isEntrySo_134 (lv_at hl 0 rfl) ?_
                refine lv_iload hx hb dL_isEntrySo_136 (lv_at hl 3 rfl) ?_
                refine lv_icmp_le (tgt := 146) hx hb dL_isEntrySo_138 (by decide) (fun _ => ?_) (fun c9 => absurd ((n_le2b (a := (hs kk)) (b := lw) (by omega) (by omega)).mpr (by omega)) c9)
                refine lv_iload hx hb dL_isEntrySo_146 (lv_at hl 3 rfl) ?_
                refine lv_istore (lv' := [(10, .int (nI lw - 1)), (13, .int (nI (hs kk))), (12, .int (nI kk)), (11, .int (nI mn)), (9, .int (nI mo)), (3, .int (nI tr2)), (8, .int (nI (shi N e - 1))), (7, .int (nI (slo N e))), (6, .int 1), (5, .int (nI L)), (4, .int 1), (2, .int (nI e)), (0, .ref q), (1, .int (nI kx))]) hx hb dL_isEntrySo_148 hl (by decide) rfl (fun ls hl => ?_)
                refine lv_iload hx hb dL_isEntrySo_150 (lv_at hl 1 rfl) ?_
                refine lv_iload hx hb dL_isEntrySo_152 (lv_at hl 4 rfl) ?_
                refine lv_icmp_gt (tgt := 164) hx hb dL_isEntrySo_154 (by decide) (fun c9 => absurd c9 (nI_nlt (a := mo) (b := (hs kk)) (by omega) (by omega))) (fun _ => ?_)
                refine lv_iload hx hb dL_isEntrySo_157 (lv_at hl 2 rfl) ?_
                refine lv_iload hx hb dL_isEntrySo_159 (lv_at hl 7 rfl) ?_
                refine lv_icmp_ne (tgt := 168) hx hb dL_isEntrySo_161 (by decide) (fun _ => ?_) (fun c9 => absurd c9 (mt (nI_eq (a := kk) (b := (slo N e)) (by omega) (by omega)).mp (by omega)))
                refine lv_iload hx hb dL_isEntrySo_168 (lv_at hl 3 rfl) ?_
                refine lv_iload hx hb dL_isEntrySo_170 (lv_at hl 1 rfl) ?_
                refine lv_iload hx hb dL_isEntrySo_172 (lv_at hl 4 rfl) ?_
                refine lv_icmp_ne (tgt := 181) hx hb dL_isEntrySo_174 (by decide) (fun _ => ?_) (fun c9 => absurd c9 (mt (nI_eq (a := (hs kk)) (b := mo) (by omega) (by omega)).mp (by omega)))
                refine lv_iconst (v := 0) hx hb dL_isEntrySo_181 (by decide) ?_
                refine lv_iadd hx hb dL_isEntrySo_182 ?_
                refine pq_top (nI (mn + 0)) (nI_add _ 0) ?_
                refine lv_istore (lv' := [(11, .int (nI (mn + 0))), (10, .int (nI lw - 1)), (13, .int (nI (hs kk))), (12, .int (nI kk)), (9, .int (nI mo)), (3, .int (nI tr2)), (8, .int (nI (shi N e - 1))), (7, .int (nI (slo N e))), (6, .int 1), (5, .int (nI L)), (4, .int 1), (2, .int (nI e)), (0, .ref q), (1, .int (nI kx))]) hx hb dL_isEntrySo_183 hl (by decide) rfl (fun ls hl => ?_)
                refine lv_iload hx hb dL_isEntrySo_185 (lv_at hl 2 rfl) ?_
                refine lv_iload hx hb dL_isEntrySo_187 (lv_at hl 4 rfl) ?_
                refine lv_icmp_gt (tgt := 199) hx hb dL_isEntrySo_189 (by decide) (fun c9 => absurd c9 (nI_nlt (a := mo) (b := (hs kk)) (by omega) (by omega))) (fun _ => ?_)
                refine lv_iload hx hb dL_isEntrySo_192 (lv_at hl 3 rfl) ?_
                refine lv_iload hx hb dL_isEntrySo_194 (lv_at hl 7 rfl) ?_
                refine lv_icmp_ne (tgt := 204) hx hb dL_isEntrySo_196 (by decide) (fun _ => ?_) (fun c9 => absurd c9 (mt (nI_eq (a := kk) (b := (slo N e)) (by omega) (by omega)).mp (by omega)))
                refine lv_iload hx hb dL_isEntrySo_204 (lv_at hl 4 rfl) ?_
                refine lv_istore (lv' := [(9, .int (nI mo)), (11, .int (nI (mn + 0))), (10, .int (nI lw - 1)), (13, .int (nI (hs kk))), (12, .int (nI kk)), (3, .int (nI tr2)), (8, .int (nI (shi N e - 1))), (7, .int (nI (slo N e))), (6, .int 1), (5, .int (nI L)), (4, .int 1), (2, .int (nI e)), (0, .ref q), (1, .int (nI kx))]) hx hb dL_isEntrySo_206 hl (by decide) rfl (fun ls hl => ?_)
                refine lv_iinc (v := nI (kk + 1)) (lv' := [(12, .int (nI (kk + 1))), (9, .int (nI mo)), (11, .int (nI (mn + 0))), (10, .int (nI lw - 1)), (13, .int (nI (hs kk))), (3, .int (nI tr2)), (8, .int (nI (shi N e - 1))), (7, .int (nI (slo N e))), (6, .int 1), (5, .int (nI L)), (4, .int 1), (2, .int (nI e)), (0, .ref q), (1, .int (nI kx))]) hx hb dL_isEntrySo_208 hl (k := 4) rfl (nI_add _ 1) (by decide) rfl (fun ls hl => ?_)
                refine lv_goto (tgt := 90) hx hb dL_isEntrySo_211 (by decide) ?_
                exact ihLQ (kk + 1) lw (mn + 0) mo (by omega) (by omega) (by omega) (by have z := Tl_E (x := hs kk) hT (by rw [show slo N e + (kk - slo N e) = kk by omega]) (by omega) (by omega) (by omega); rw [show kk - slo N e + 1 = kk + 1 - slo N e by omega] at z; exact z) H locs ls hP hD hS (lv_sub hl [0, 2, 3, 1, 5, 6, 7, 8, 9, 10, 11, 12, 13] rfl)
        exact LQ _ (slo N e) 0 0 0 (Nat.lt_succ_self _) (Nat.le_refl _) (by omega) (by rw [Nat.sub_self]; exact Tl_0 _ _) H locs ls hP hD hS (lv_sub hl [0, 1, 2, 3, 4, 5, 6, 7, 8, 9, 10, 11, 12] rfl)
      refine lv_iload_n hx hb dL_isEntrySo_47 rfl (lv_at hl 5 rfl) ?_
      by_cases k_31 : tr = 0
      · refine lv_if_eq (tgt := 75) hx hb dL_isEntrySo_48 (by decide) (fun _ => ?_) (fun c9 => absurd ((nI_eq (a := tr) (b := 0) (by omega) (by omega)).mpr (by omega)) c9)
        refine lv_iconst (v := 0) hx hb dL_isEntrySo_75 (by decide) ?_
        exact J4 0 (by omega) (fun z => absurd z (by decide)) H locs ls hP hD hS hl
      · refine lv_if_eq (tgt := 75) hx hb dL_isEntrySo_48 (by decide) (fun c9 => absurd c9 (mt (nI_eq (a := tr) (b := 0) (by omega) (by omega)).mp (by omega))) (fun _ => ?_)
        refine lv_iload_n hx hb dL_isEntrySo_51 rfl (lv_at hl 6 rfl) ?_
        refine lv_iconst (v := 1) hx hb dL_isEntrySo_52 (by decide) ?_
        by_cases k_32 : e = 1
        · refine lv_icmp_eq (tgt := 71) hx hb dL_isEntrySo_53 (by decide) (fun _ => ?_) (fun c9 => absurd ((nI_eq (a := e) (b := 1) (by omega) (by omega)).mpr (by omega)) c9)
          refine lv_iconst (v := 1) hx hb dL_isEntrySo_71 (by decide) ?_
          refine lv_goto (tgt := 76) hx hb dL_isEntrySo_72 (by decide) ?_
          exact J4 1 (by omega) (fun _ => by have z := h1e (by omega); subst_vars; rw [hge] at z; have := (nI_eq (by omega) (by omega)).mp z; omega) H locs ls hP hD hS hl
        · refine lv_icmp_eq (tgt := 71) hx hb dL_isEntrySo_53 (by decide) (fun c9 => absurd c9 (mt (nI_eq (a := e) (b := 1) (by omega) (by omega)).mp (by omega))) (fun _ => ?_)
          refine lv_aload_n hx hb dL_isEntrySo_56 rfl (lv_at hl 7 rfl) ?_
          refine lv_iload_n hx hb dL_isEntrySo_57 rfl (lv_at hl 6 rfl) ?_
          refine pq_callV (wr := []) (own := RL) (nL := 14) (q0 := 0) (ci := 2) [0, 1, 2, 3, 4, 5, 6, 7, 8, 9, 10] [] [.int (nI e)] (f_greatest l D cI q h a0 a1 a2 a3 a4 a5 g b0 b1 I (ke := e) hXE (x := ge) hge) ⟨hx, hb, hml, hown, hts⟩ (cwV 1 hts gL_isEntrySo_X2_greatest rfl rfl rfl (by decide +kernel) ⟨by dsimp only [pq_R]; omega, by dsimp only [pq_R]; omega⟩) pq_blE (hE.call hD hS hA [0, 1, 2, 3, 4, 5, 6, 7, 8, 9, 10] rfl) hK hP hD hS hA rfl (by decide) rfl (by decide) (by decide) rfl rfl rfl rfl hl.1 rfl (Nat.le_of_ble_eq_true rfl) dL_isEntrySo_58 ⟨by dsimp only [pq_R]; omega, by dsimp only [pq_R]; omega⟩ (fun v w1 H locs hq hP hD hS hz => ?_)
          obtain ⟨rfl, rfl⟩ := hq
          have hP : va_P D vwCl (ppW q h a0 a1 a2 a3 a4 a5 g b0 b1 cI fi la B G pr) H := hP
          have hD : va_D A (ppW q h a0 a1 a2 a3 a4 a5 g b0 b1 cI fi la B G pr) := hD
          refine W.eq (g2 := F0 m 61 ls [.int (nI ge)]) rfl ?_
          have hpar : B.1 (e / 2) = nI L := by rcases hte (by omega) with z | z; exact absurd z (by omega); exact z.2
          refine lv_aload_n hx hb dL_isEntrySo_61 rfl (lv_at hl 7 rfl) ?_
          refine lv_iload_n hx hb dL_isEntrySo_62 rfl (lv_at hl 6 rfl) ?_
          refine lv_iconst (v := 2) hx hb dL_isEntrySo_63 (by decide) ?_
          refine lv_idiv hx hb dL_isEntrySo_64 (by decide) ?_
          refine pq_top (nI (e / 2)) (pk_div (d := 2) (by omega) (by decide) (by decide)) ?_
          refine pq_callV (wr := []) (own := RL) (nL := 14) (q0 := 0) (ci := 2) [0, 1, 2, 3, 4, 5, 6, 7, 8, 9, 10] [] [.int (nI (e / 2))] (f_greatest l D cI q h a0 a1 a2 a3 a4 a5 g b0 b1 I (ke := (e / 2)) (sp_par (by omega) (by omega) hXE).1 (x := L) hpar) ⟨hx, hb, hml, hown, hts⟩ (cwV 1 hts gL_isEntrySo_X2_greatest rfl rfl rfl (by decide +kernel) ⟨by dsimp only [pq_R]; omega, by dsimp only [pq_R]; omega⟩) pq_blE (hE.call hD hS hA [0, 1, 2, 3, 4, 5, 6, 7, 8, 9, 10] rfl) hK hP hD hS hA rfl (by decide) rfl (by decide) (by decide) rfl rfl rfl rfl hl.1 rfl (Nat.le_of_ble_eq_true rfl) dL_isEntrySo_65 ⟨by dsimp only [pq_R]; omega, by dsimp only [pq_R]; omega⟩ (fun v w1 H locs hq hP hD hS hz => ?_)
          obtain ⟨rfl, rfl⟩ := hq
          have hP : va_P D vwCl (ppW q h a0 a1 a2 a3 a4 a5 g b0 b1 cI fi la B G pr) H := hP
          have hD : va_D A (ppW q h a0 a1 a2 a3 a4 a5 g b0 b1 cI fi la B G pr) := hD
          refine W.eq (g2 := F0 m 68 ls [.int (nI L), .int (nI ge)]) rfl ?_
          rcases Nat.lt_or_ge L ge with k_35 | k_35
          · refine lv_icmp_gt (tgt := 75) hx hb dL_isEntrySo_68 (by decide) (fun _ => ?_) (fun c9 => absurd ((nI_lt (a := L) (b := ge) k_35 (by omega))) c9)
            refine lv_iconst (v := 0) hx hb dL_isEntrySo_75 (by decide) ?_
            exact J4 0 (by omega) (fun z => absurd z (by decide)) H locs ls hP hD hS hl
          · refine lv_icmp_gt (tgt := 75) hx hb dL_isEntrySo_68 (by decide) (fun c9 => absurd c9 ((nI_nlt (a := L) (b := ge) k_35 (by omega)))) (fun _ => ?_)
            refine lv_iconst (v := 1) hx hb dL_isEntrySo_71 (by decide) ?_
            refine lv_goto (tgt := 76) hx hb dL_isEntrySo_72 (by decide) ?_
            exact J4 1 (by omega) (fun _ => by omega) H locs ls hP hD hS hl
  exact LP _ 1 (nMax hs 0 N) 1 (Nat.lt_succ_self _) (pw_root I hkx r1 r3) (Nat.le_refl _) (fun _ => Or.inl rfl) (fun _ => r1) H locs ls hP hD hS hl

