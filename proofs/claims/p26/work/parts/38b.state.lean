/-! the class's state, in naturals -/
theorem Ex_1 {N : Nat} (h : 1 ≤ N) : Ex N 1 := ⟨by decide, by decide, by rw [(sp_root N).1, (sp_root N).2]; omega⟩
/-- columns; heights; one more than the ceilings (0: none); the last call's visits, all visits, all calls -/
def J (N : Nat) (hs cs : Nat → Nat) (vis tot cal : Nat) (fi la : Nat → Int32) (B : BK) (G : GK) (pr : Int32) : Prop :=
  1 ≤ N ∧ N ≤ 64 ∧ SpC N fi la ∧ Ok N (row B) 7 1 ∧ Bd B.1 ∧ (∀ k, k < N → hv N (row B) 7 1 k = nI (hs k)) ∧ (∀ k, k < 64 → hs k ≤ 1000 ∧ G.1 k = nI (hs k)) ∧ (∀ k, k < 64 → G.2.1 k = nI (cs k) - 1 ∧ cs k ≤ 1001 ∧ (cs k = 0 ∨ hs k + 1 ≤ cs k)) ∧ G.2.2.1 = nI N ∧ G.2.2.2 - nI (nSum hs 0 0 N) = pr ∧ B.2.2.2.2.1 = nI vis ∧ B.2.2.2.2.2.1 = nI tot ∧ B.2.2.2.2.2.2 = nI cal ∧ ((cal = 0 ∧ tot = 0) ∨ (1 ≤ cal ∧ cal ≤ tot))
theorem j_cn {n vis tot cal : Nat} {B C : BK} (h1 : B.2.2.2.2.2.1 = nI tot) (h2 : B.2.2.2.2.2.2 = nI cal) (c : Cn n (bBegin B) C) : C.2.2.2.2.1 = nI n ∧ C.2.2.2.2.2.1 = nI (tot + n) ∧ C.2.2.2.2.2.2 = nI (cal + 1) := by
  obtain ⟨c1, c2, c3⟩ := c
  refine ⟨?_, ?_, ?_⟩
  · rw [c1]
    show (0 : Int32) + nI n = nI n
    exact Int32.zero_add _
  · rw [c2]
    show B.2.2.2.2.2.1 + nI n = _
    rw [h1, nI_add]
  · rw [c3]
    show B.2.2.2.2.2.2 + 1 = _
    rw [h2, nI_1]
theorem j_rest {N : Nat} {hs cs : Nat → Nat} {vis tot cal : Nat} {fi la : Nat → Int32} {B : BK} {G : GK} {pr : Int32} (I : J N hs cs vis tot cal fi la B G pr) : G.2.2.2 - gAbove G.1 0 (N - 1 + 1 - 0) 0 = pr := by
  obtain ⟨i1, i2, i3, i4, i5, i6, i7, i8, i9, i10, i11, i12, i13, i14⟩ := I
  have := gAb_n (h := hs) (f := 0) (c := 0) i7 (by decide) N (by omega)
  rw [show N - 1 + 1 - 0 = N by omega, show (0 : Int32) = nI 0 from rfl, this]
  exact i10
theorem j_new {N v : Nat} (hN1 : 1 ≤ N) (hN : N ≤ 64) (hv0 : v ≤ 1000) (fi la : Nat → Int32) (B : BK) (g0 c0 : Nat → Int32) :
    J N (fun k => if k < N then v else 0) (fun _ => 0) 0 0 0 (sIter (upd fi 1 0, upd la 1 (nI N - 1)) 63).1 (sIter (upd fi 1 0, upd la 1 (nI N - 1)) 63).2 (bNew (sIter (upd fi 1 0, upd la 1 (nI N - 1)) 63) (nI v) B) (gFillH (nI N) (nI v) g0 64, gFillC c0 64, nI N, nI N * nI v) 0 ∧
    bLags (sIter (upd fi 1 0, upd la 1 (nI N - 1)) 63).2 (bNew (sIter (upd fi 1 0, upd la 1 (nI N - 1)) 63) (nI v) B) 126 = 0 := by
  have S := spC_new hN1 (show N < 65 by omega) fi la
  obtain ⟨a1, a3⟩ := new_main hN1 (show N < 65 by omega) (v0 := nI v) (nI_le (a := 0) (Nat.zero_le _) (by omega)) (sIter (upd fi 1 0, upd la 1 (nI N - 1)) 63) S B
  have hg : ∀ e, 1 ≤ e → e < 128 → (bNew (sIter (upd fi 1 0, upd la 1 (nI N - 1)) 63) (nI v) B).1 e = nI v := by
    intro e h1 h2
    exact congrArg Prod.fst (row_new (sIter (upd fi 1 0, upd la 1 (nI N - 1)) 63) (nI v) B h1 h2)
  refine ⟨⟨hN1, hN, S, a1, fun e h1 h2 => ?_, fun k hk => ?_, fun k hk => ⟨?_, ?_⟩, fun k hk => ⟨?_, by dsimp only; omega, Or.inl rfl⟩, rfl, ?_, rfl, rfl, rfl, Or.inl ⟨rfl, rfl⟩⟩, ?_⟩
  · rw [hg e h1 h2]
    exact nI_le (b := 1000) hv0 (by decide)
  · dsimp only
    rw [a3, if_pos hk]
  · dsimp only
    split <;> omega
  · dsimp only
    rw [gFillH_at _ _ _ 64 k hk]
    by_cases q : k < N
    · rw [if_neg (nI_ge q (by omega)), if_pos q]
    · rw [if_pos (nI_le (by omega) (by omega)), if_neg q]; rfl
  · dsimp only
    rw [gFillC_at _ 64 k hk]
    rfl
  · dsimp only
    rw [nSum_k (v := v) (fun k a b => if_pos (by omega)), pk_mul]
    exact Int32.sub_self _
  · generalize (sIter (upd fi 1 0, upd la 1 (nI N - 1)) 63) = X at hg ⊢
    have : ∀ n, n ≤ 126 → bLags X.2 (bNew X (nI v) B) n = 0 := by
      intro n
      induction n with
      | zero => intro _; rfl
      | succ n ih =>
        intro h
        rw [bLags, if_neg, ih (by omega)]
        rintro ⟨-, q⟩
        refine q ?_
        rw [hg (n + 2) (by omega) (by omega), hg ((n + 2) / 2) (by omega) (by omega)]
        exact Int32.le_refl _
    exact this 126 (Nat.le_refl _)
/-- how many entries there are, from the second on -/
def nEx (N : Nat) : Nat → Nat
  | 0 => 0
  | n + 1 => nEx N n + (if slo N (n + 2) < shi N (n + 2) then 1 else 0)
set_option maxRecDepth 100000 in
theorem nEx_le : ∀ N, N < 65 → 1 ≤ N → nEx N 126 + 2 ≤ 2 * N := by decide +kernel
section JJ
variable {N : Nat} {hs cs : Nat → Nat} {vis tot cal : Nat} {fi la : Nat → Int32} {B : BK} {G : GK} {pr : Int32}
theorem j_pile (I : J N hs cs vis tot cal fi la B G pr) {k w : Nat} (hk : k < N) (hw : 1 ≤ w) (h : hs k + w ≤ 1000) :
    ∃ n, 1 ≤ n ∧ n ≤ 7 ∧ J N (fun x => if x = k then hs k + w else hs x) (fun x => if x = k then 0 else cs x) n (tot + n) (cal + 1) fi la (bRaiseFrom fi la (nI k) (G.1 k + nI w) 7 (bBegin B) 1) (upd G.1 k (G.1 k + nI w), upd G.2.1 k (-1), G.2.2.1, G.2.2.2 + nI w) pr := by
  obtain ⟨i1, i2, i3, i4, i5, i6, i7, i8, i9, i10, i11, i12, i13, i14⟩ := I
  have hv1 : G.1 k + nI w = nI (hs k + w) := by rw [(i7 k (by omega)).2, nI_add]
  rw [hv1]
  obtain ⟨p1, -, p4⟩ := raise_main (v := nI (hs k + w)) (show N < 65 by omega) i3 (show k < 64 by omega) (nI_le (a := 0) (Nat.zero_le _) (by omega)) 7 (bBegin B) 1 (Ex_1 i1) (by decide) i4 (by rw [(sp_root N).1]; omega) (by rw [(sp_root N).2]; omega)
  obtain ⟨n, c, n1, n2⟩ := cn_raise (fi := fi) (la := la) (x := nI k) (v := nI (hs k + w)) 7 (bBegin B) 1
  obtain ⟨c1, c2, c3⟩ := j_cn (vis := vis) i12 i13 c
  refine ⟨n, n2 (by decide), n1, i1, i2, i3, p1, bd_raise (nI_le (b := 1000) h (by decide)) 7 (bBegin B) 1 (by decide) (by decide) i5, fun m hm => ?_, fun m hm => ⟨?_, ?_⟩, fun m hm => ?_, i9, ?_, c1, c2, c3, Or.inr ⟨by omega, by have := n2 (by decide); omega⟩⟩
  · rw [p4 m (by rw [(sp_root N).1]; omega) (by rw [(sp_root N).2]; omega)]
    dsimp only
    by_cases q : m = k
    · subst q; rw [if_pos rfl, if_pos rfl]
    · rw [if_neg q, if_neg q]; exact i6 m hm
  · dsimp only
    by_cases q : m = k
    · rw [if_pos q]; exact h
    · rw [if_neg q]; exact (i7 m hm).1
  · dsimp only
    by_cases q : m = k
    · subst q; rw [pk_us, if_pos rfl]
    · rw [pk_un q, if_neg q]; exact (i7 m hm).2
  · dsimp only
    by_cases q : m = k
    · subst q; rw [pk_us, if_pos rfl]; exact ⟨rfl, by omega, Or.inl rfl⟩
    · rw [pk_un q, if_neg q, if_neg q]; exact i8 m hm
  · dsimp only
    have e : nSum (fun x => if x = k then hs k + w else hs x) 0 0 N = nSum hs 0 0 N + nSum (fun x => if k ≤ x ∧ x ≤ k then (fun _ => w) x else 0) 0 0 N := by
      refine nSum_3 (fun x _ _ => ?_)
      dsimp only
      by_cases q : x = k
      · subst q; rw [if_pos rfl, if_pos ⟨Nat.le_refl _, Nat.le_refl _⟩]; omega
      · rw [if_neg q, if_neg (by omega)]; omega
    rw [nSum_in (h := fun _ => w) 0 (Nat.le_refl k) hk, show k + 1 - k = 1 by omega] at e
    have e2 : nSum (fun _ => w) k 0 1 = w := by show 0 + (w - 0) = w; omega
    rw [e2] at e
    rw [e, ← i10, ← nI_add]
    grind
theorem j_lower (I : J N hs cs vis tot cal fi la B G pr) {f t c : Nat} (hft : f ≤ t) (ht : t < N) (hc : c ≤ 1000) :
    B.2.2.2.1 1 - (bPressFrom fi la (nI f) (nI t) (nI c) 7 (bBegin B) 1).2.2.2.1 1 = nI (nSum hs f c (t + 1 - f)) ∧
    ∃ n, 1 ≤ n ∧ n ≤ 2 * N ∧ J N (fun k => if f ≤ k ∧ k ≤ t then min (hs k) c else hs k) (fun k => if f ≤ k ∧ k ≤ t then (if cs k = 0 ∨ c + 1 < cs k then c + 1 else cs k) else cs k) n (tot + n) (cal + 1) fi la (bPressFrom fi la (nI f) (nI t) (nI c) 7 (bBegin B) 1) (gPressH (nI c) f G.1 (t + 1 - f), gPressC (nI c) f G.2.1 (t + 1 - f), G.2.2.1, G.2.2.2) (pr + nI (nSum hs f c (t + 1 - f))) := by
  obtain ⟨i1, i2, i3, i4, i5, i6, i7, i8, i9, i10, i11, i12, i13, i14⟩ := I
  have h0 : (0 : Int32) ≤ nI c := nI_le (a := 0) (Nat.zero_le _) (by omega)
  obtain ⟨p1, -, p4⟩ := press_main (a := f) (b := t) (c := nI c) (show N < 65 by omega) i3 (by omega) (by omega) h0 7 (bBegin B) 1 (Ex_1 i1) (by decide) i4
  have hmin : ∀ m, m < 64 → bMin (nI (hs m)) (nI c) = nI (min (hs m) c) := by
    intro m hm
    have := (i7 m hm).1
    rw [← Int32.toInt_inj, bMin_i, nI_toInt (by omega), nI_toInt (by omega), nI_toInt (by omega)]
    omega
  have p4' : ∀ m, m < N → hv N (row (bPressFrom fi la (nI f) (nI t) (nI c) 7 (bBegin B) 1)) 7 1 m = nI (if f ≤ m ∧ m ≤ t then min (hs m) c else hs m) := by
    intro m hm
    rw [p4 m (by rw [(sp_root N).1]; omega) (by rw [(sp_root N).2]; omega), show hv N (row (bBegin B)) 7 1 m = nI (hs m) from i6 m hm, hmin m (by omega)]
    by_cases q : f ≤ m ∧ m ≤ t
    · rw [if_pos q, if_pos q]
    · rw [if_neg q, if_neg q]
  have e : nSum hs 0 0 N = nSum (fun k => if f ≤ k ∧ k ≤ t then min (hs k) c else hs k) 0 0 N + nSum (fun k => if f ≤ k ∧ k ≤ t then hs k else 0) 0 c N := by
    refine nSum_3 (fun k _ _ => ?_)
    by_cases q : f ≤ k ∧ k ≤ t
    · rw [if_pos q, if_pos q]; omega
    · rw [if_neg q, if_neg q]; omega
  rw [nSum_in c hft ht] at e
  obtain ⟨n, cn, n1, n2⟩ := cn_press (a := nI f) (b := nI t) (c := nI c) (show N < 65 by omega) i3 7 (bBegin B) 1 (Ex_1 i1)
  rw [(sp_root N).1, (sp_root N).2] at n1
  obtain ⟨c1, c2, c3⟩ := j_cn (vis := vis) i12 i13 cn
  have o1 := (Ok_1 (by decide) (by decide) i4).2.2.2.2.2.1
  have o2 := (Ok_1 (by decide) (by decide) p1).2.2.2.2.2.1
  rw [(sp_root N).1, (sp_root N).2] at o1 o2
  have s1 : B.2.2.2.1 1 = nI (nSum hs 0 0 (N - 0)) := o1.trans (g_n (fun m _ hm => i6 m (by omega)))
  have s2 : (bPressFrom fi la (nI f) (nI t) (nI c) 7 (bBegin B) 1).2.2.2.1 1 = nI (nSum (fun k => if f ≤ k ∧ k ≤ t then min (hs k) c else hs k) 0 0 (N - 0)) := o2.trans (g_n (fun m _ hm => p4' m (by omega)))
  refine ⟨?_, n, n2 (by decide), by omega, i1, i2, i3, p1, bd_press 7 (bBegin B) 1 (by decide) (by decide) i5, p4', fun m hm => ⟨?_, ?_⟩, fun m hm => ?_, i9, ?_, c1, c2, c3, Or.inr ⟨by omega, by have := n2 (by decide); omega⟩⟩
  · rw [s1, s2, Nat.sub_zero, e, pk_sub (by omega)]
    congr 1
    omega
  · dsimp only
    have := (i7 m hm).1
    split <;> omega
  · dsimp only
    rw [gPressH_at, (i7 m hm).2, hmin m hm]
    by_cases q : f ≤ m ∧ m ≤ t
    · rw [if_pos (by omega), if_pos q]
    · rw [if_neg (by omega), if_neg q]
  · dsimp only
    obtain ⟨j1, j2, j3⟩ := i8 m hm
    have h7 := (i7 m hm).1
    rw [gPressC_at, j1]
    by_cases q : f ≤ m ∧ m ≤ t
    · rw [if_pos (by omega), if_pos q, if_pos q]
      have w1 : nI (cs m) - 1 = -1 ↔ cs m = 0 := by
        constructor
        · intro h
          have h2 := congrArg Int32.toInt h
          rw [show (1 : Int32) = nI 1 from rfl, pk_sub_toInt (by omega) (by omega)] at h2
          have h3 : (-(nI 1)).toInt = -1 := rfl
          omega
        · intro h; rw [h]; rfl
      have w2 : nI c < nI (cs m) - 1 ↔ c + 1 < cs m := by
        rw [i_lt', show (1 : Int32) = nI 1 from rfl, pk_sub_toInt (by omega) (by omega), nI_toInt (by omega)]
        omega
      by_cases z : cs m = 0 ∨ c + 1 < cs m
      · rw [if_pos (z.imp w1.mpr w2.mpr), if_pos z]
        exact ⟨(nI_pred _).symm, by omega, by omega⟩
      · rw [if_neg (fun y => z (y.imp w1.mp w2.mp)), if_neg z]
        exact ⟨rfl, j2, by omega⟩
    · rw [if_neg (by omega), if_neg q, if_neg q]
      exact ⟨rfl, j2, j3⟩
  · dsimp only
    rw [← i10, e, ← nI_add]
    grind
theorem j_sum (I : J N hs cs vis tot cal fi la B G pr) {f t : Nat} (hft : f ≤ t) (ht : t < N) :
    (bSumFrom fi la (nI f) (nI t) 7 (bBegin B) 1).1 = nI (nSum hs f 0 (t + 1 - f)) ∧ ∃ n, 1 ≤ n ∧ n ≤ 2 * N ∧ J N hs cs n (tot + n) (cal + 1) fi la (bSumFrom fi la (nI f) (nI t) 7 (bBegin B) 1).2 G pr := by
  obtain ⟨i1, i2, i3, i4, i5, i6, i7, i8, i9, i10, i11, i12, i13, i14⟩ := I
  obtain ⟨v, p1, -, -, p4⟩ := sum_main (a := f) (b := t) (show N < 65 by omega) i3 (by omega) (by omega) 7 (bBegin B) 1 (Ex_1 i1) (by decide) i4
  obtain ⟨n, cn, n1, n2⟩ := cn_sum (a := nI f) (b := nI t) (show N < 65 by omega) i3 7 (bBegin B) 1 (Ex_1 i1)
  rw [(sp_root N).1, (sp_root N).2] at n1 v
  obtain ⟨c1, c2, c3⟩ := j_cn (vis := vis) i12 i13 cn
  refine ⟨?_, n, n2 (by decide), by omega, i1, i2, i3, p1, bd_sum 7 (bBegin B) 1 (by decide) (by decide) i5, fun m hm => ?_, i7, i8, i9, i10, c1, c2, c3, Or.inr ⟨by omega, by have := n2 (by decide); omega⟩⟩
  · rw [v, ← nSum_in 0 hft ht, Nat.sub_zero]
    refine g_n (fun k _ hk => ?_)
    by_cases q : f ≤ k ∧ k ≤ t
    · rw [if_pos q, if_pos q]; exact i6 k (by omega)
    · rw [if_neg q, if_neg q]; rfl
  · rw [p4 m (by rw [(sp_root N).1]; omega) (by rw [(sp_root N).2]; omega)]
    exact i6 m hm
theorem j_top (I : J N hs cs vis tot cal fi la B G pr) {f t : Nat} (hft : f ≤ t) (ht : t < N) :
    (bTopFrom fi la (nI f) (nI t) 7 (bBegin B) 1).1 = nI (nMax hs f (t + 1 - f)) ∧ ∃ n, 1 ≤ n ∧ n ≤ 2 * N ∧ J N hs cs n (tot + n) (cal + 1) fi la (bTopFrom fi la (nI f) (nI t) 7 (bBegin B) 1).2 G pr := by
  obtain ⟨i1, i2, i3, i4, i5, i6, i7, i8, i9, i10, i11, i12, i13, i14⟩ := I
  obtain ⟨v, p1, -, -, p4⟩ := top_main (a := f) (b := t) (show N < 65 by omega) i3 (by omega) (by omega) 7 (bBegin B) 1 (Ex_1 i1) (by decide) i4
  obtain ⟨n, cn, n1, n2⟩ := cn_top (a := nI f) (b := nI t) (show N < 65 by omega) i3 7 (bBegin B) 1 (Ex_1 i1)
  rw [(sp_root N).1, (sp_root N).2] at n1 v
  obtain ⟨c1, c2, c3⟩ := j_cn (vis := vis) i12 i13 cn
  refine ⟨?_, n, n2 (by decide), by omega, i1, i2, i3, p1, bd_top 7 (bBegin B) 1 (by decide) (by decide) i5, fun m hm => ?_, i7, i8, i9, i10, c1, c2, c3, Or.inr ⟨by omega, by have := n2 (by decide); omega⟩⟩
  · rw [v]
    obtain ⟨k0, a0, b0, e0⟩ := nMax_ex (h := hs) (f := f) (n := t + 1 - f) (by omega)
    have hk0 := (i7 k0 (by omega)).1
    refine gTop_eq (Int32.le_trans (show (-1 : Int32) ≤ 0 by decide) (nI_le (a := 0) (Nat.zero_le _) (by omega))) (fun k _ hk => ?_) ⟨k0, by omega, by omega, ?_⟩
    · by_cases q : f ≤ k ∧ k ≤ t
      · rw [if_pos q, show hv N (row (bBegin B)) 7 1 k = nI (hs k) from i6 k (by omega)]
        exact nI_le (nMax_ge q.1 (by omega)) (by omega)
      · rw [if_neg q]
        exact Int32.le_trans (show (-1 : Int32) ≤ 0 by decide) (nI_le (a := 0) (Nat.zero_le _) (by omega))
    · rw [if_pos (by omega), show hv N (row (bBegin B)) 7 1 k0 = nI (hs k0) from i6 k0 (by omega), e0]
  · rw [p4 m (by rw [(sp_root N).1]; omega) (by rw [(sp_root N).2]; omega)]
    exact i6 m hm
theorem j_above (I : J N hs cs vis tot cal fi la B G pr) {f t c : Nat} (hft : f ≤ t) (ht : t < 64) (hc : c ≤ 2000) : gAbove G.1 f (t + 1 - f) (nI c) = nI (nSum hs f c (t + 1 - f)) :=
  gAb_n I.2.2.2.2.2.2.1 hc _ (by omega)
theorem j_sum_b (I : J N hs cs vis tot cal fi la B G pr) {f t c : Nat} (hft : f ≤ t) (ht : t < 64) : nSum hs f c (t + 1 - f) ≤ 64000 := by
  have := nSum_b (h := hs) (f := f) (c := c) (b := 1000) (n := t + 1 - f) (fun k _ h => (I.2.2.2.2.2.2.1 k (by omega)).1)
  omega
theorem j_for (I : J N hs cs vis tot cal fi la B G pr) {f t w : Nat} (hft : f ≤ t) (ht : t < 64) (hw1 : 1 ≤ w) (hw2 : w ≤ nSum hs f 0 (t + 1 - f)) :
    ¬ gAbove G.1 f (t + 1 - f) 0 < nI w ∧ ∃ r, gHi (gAbove G.1 f (t + 1 - f)) (nI w) 10 0 = nI r ∧ r ≤ 999 ∧ w ≤ nSum hs f r (t + 1 - f) ∧ nSum hs f (r + 1) (t + 1 - f) < w := by
  have hb := fun c => j_sum_b (c := c) I hft ht
  have h64 := hb 0
  have key : ∀ c, c ≤ 2000 → (nI w ≤ gAbove G.1 f (t + 1 - f) (nI c) ↔ w ≤ nSum hs f c (t + 1 - f)) := by
    intro c hc
    have := hb c
    rw [j_above I hft ht hc, Int32.le_iff_toInt_le, nI_toInt (by omega), nI_toInt (by omega)]
    omega
  have h0 : nI w ≤ gAbove G.1 f (t + 1 - f) (nI 0) := (key 0 (by decide)).mpr hw2
  have hz : ∀ c, 1000 ≤ c → nSum hs f c (t + 1 - f) = 0 := fun c hc => nSum_z (fun k hk => (I.2.2.2.2.2.2.1 k hk).1) hc _ (by omega)
  refine ⟨i_nlt h0, ?_⟩
  obtain ⟨r, r1, r2, r3⟩ := gHi_P (A := gAbove G.1 f (t + 1 - f)) (w := nI w) 10 0 h0 (by
    rw [key (0 + 2 ^ 10) (by decide), hz _ (by decide)]
    omega)
  obtain ⟨r', q1, -, q3⟩ := gHi_n (A := gAbove G.1 f (t + 1 - f)) (w := nI w) 10 0
  have r1' : gHi (gAbove G.1 f (t + 1 - f)) (nI w) 10 0 = nI r := r1
  have q1' : gHi (gAbove G.1 f (t + 1 - f)) (nI w) 10 0 = nI r' := q1
  have q3 : r' < 1024 := by omega
  have r2' : nI w ≤ gAbove G.1 f (t + 1 - f) (nI r') := by rw [← q1', r1']; exact r2
  have r3' : ¬ nI w ≤ gAbove G.1 f (t + 1 - f) (nI (r' + 1)) := by
    rw [← nI_1, ← q1', r1', nI_1]; exact r3
  have s1 := (key r' (by omega)).mp r2'
  have s2 : ¬ w ≤ nSum hs f (r' + 1) (t + 1 - f) := fun z => r3' ((key (r' + 1) (by omega)).mpr z)
  refine ⟨r', q1', ?_, s1, by omega⟩
  rcases Nat.lt_or_ge 999 r' with z | z
  · rw [hz r' (by omega)] at s1; omega
  · exact z
theorem j_lag (I : J N hs cs vis tot cal fi la B G pr) : ∃ n, n + 1 < 2 * N ∧ bLags la B 126 = nI n := by
  obtain ⟨i1, i2, i3, -⟩ := I
  -- the entries there are beside the first
  have hE : ∀ e, 2 ≤ e → e < 128 → (bHas la (nI e) ↔ Ex N e) := fun e h1 h2 => has_ex (show N < 65 by omega) i3 (by omega) h2
  have key : ∀ n, n ≤ 126 → ∃ j, bLags la B n = nI j ∧ j ≤ nEx N n := by
    intro n
    induction n with
    | zero => intro _; exact ⟨0, rfl, Nat.le_refl _⟩
    | succ n ih =>
      intro h
      obtain ⟨j, j1, j2⟩ := ih (by omega)
      rw [bLags, nEx]
      by_cases q : bHas la (nI (n + 2)) ∧ bLag B (n + 2)
      · rw [if_pos q, if_pos ((hE (n + 2) (by omega) (by omega)).mp q.1).2.2, j1]
        exact ⟨j + 1, nI_1 _, by omega⟩
      · rw [if_neg q]
        exact ⟨j, j1, Nat.le_trans j2 (Nat.le_add_right _ _)⟩
  obtain ⟨j, j1, j2⟩ := key 126 (Nat.le_refl _)
  exact ⟨j, by have := nEx_le N (by omega) i1; omega, j1⟩
end JJ
