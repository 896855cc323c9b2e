/-! class and reference, call by call -/
def IV (N : Nat) (fi la : Nat → Int32) (B : BK) (G : GK) (mf ml : Nat → Int32) (M : BK) (hs cs : Nat → Int32) : Prop :=
  1 ≤ N ∧ N ≤ 64 ∧ SpC N fi la ∧ SpM N mf ml ∧ Ag N B M ∧ Ok N (row B) 7 1 ∧ (∀ k, k < N → hv N (row B) 7 1 k = hs k) ∧ (∀ k, k < 64 → G.1 k = hs k ∧ G.2.1 k = cs k ∧ ∃ n, n ≤ 1000 ∧ hs k = nI n) ∧ G.2.2.1 = nI N
theorem Ex_1 {N : Nat} (h : 1 ≤ N) : Ex N 1 := ⟨by decide, by decide, by rw [(sp_root N).1, (sp_root N).2]; omega⟩
theorem m_hsp {N : Nat} {mf ml : Nat → Int32} (hN : N < 65) (S : SpM N mf ml) : ∀ e, e < 128 → ¬ ml e ≤ mf e → e < 64 := by
  intro e h1 h2
  rcases Nat.eq_zero_or_pos e with rfl | h0
  · decide
  by_cases hE : Ex N e
  · exact Ex_lt hN hE (Classical.not_not.mp (fun q => h2 ((m_pt hN S hE).mpr q)))
  · obtain ⟨s1, s2⟩ := S e h0 h1
    have hs : ¬ slo N e < shi N e := fun q => hE ⟨h0, h1, q⟩
    have hz : shi N e = 0 := (sp_z N hN e h1 h0).resolve_left hs
    rw [if_neg hs] at s1
    rw [hz] at s2
    exact absurd (by rw [s1, s2]; exact (show nI 0 - 1 ≤ -1 by decide)) h2
theorem m_ex {N e : Nat} {mf ml : Nat → Int32} (hN : N < 65) (S : SpM N mf ml) (h1 : 1 ≤ e) (h2 : e < 128) (h : ¬ ml e ≤ mf e) : Ex N e ∧ Pt N e := by
  by_cases hE : Ex N e
  · exact ⟨hE, Classical.not_not.mp (fun q => h ((m_pt hN S hE).mpr q))⟩
  · obtain ⟨s1, s2⟩ := S e h1 h2
    have hs : ¬ slo N e < shi N e := fun q => hE ⟨h1, h2, q⟩
    have hz : shi N e = 0 := (sp_z N hN e h2 h1).resolve_left hs
    rw [if_neg hs] at s1
    rw [hz] at s2
    exact absurd (by rw [s1, s2]; exact (show nI 0 - 1 ≤ -1 by decide)) h
theorem m_fl {N e : Nat} {mf ml : Nat → Int32} (hN : N < 65) (S : SpM N mf ml) (hE : Ex N e) : mf e ≤ ml e := by
  obtain ⟨s1, s2⟩ := S e hE.1 hE.2.1
  obtain ⟨q1, q2, q3⟩ := sp_in N hN e hE.2.1 hE.1
  have := hE.2.2
  rw [if_pos hE.2.2] at s1
  rw [s1, s2, Int32.le_iff_toInt_le, show (1 : Int32) = nI 1 from rfl, pk_sub_toInt (by omega) (by omega), nI_toInt (by omega)]
  omega
theorem m_hch {N : Nat} {mf ml : Nat → Int32} (hN : N < 65) (S : SpM N mf ml) : ∀ e, 1 ≤ e → e < 64 → ¬ ml e ≤ mf e → mf (2 * e) ≤ ml (2 * e) ∧ mf (2 * e + 1) ≤ ml (2 * e + 1) := by
  intro e h1 h2 h3
  obtain ⟨hE, hp⟩ := m_ex hN S h1 (by omega) h3
  obtain ⟨E0, E1, -⟩ := Ex_kids hN hE hp
  exact ⟨m_fl hN S E0, m_fl hN S E1⟩
theorem m_hrt {N : Nat} {mf ml : Nat → Int32} (hN1 : 1 ≤ N) (hN : N < 65) (S : SpM N mf ml) : mf 1 ≤ ml 1 := m_fl hN S (Ex_1 hN1)
theorem iv_new {N v : Nat} (hN1 : 1 ≤ N) (hN : N ≤ 64) (hv0 : v ≤ 1000) (fi la : Nat → Int32) (B : BK) (g0 c0 : Nat → Int32) (y : Int32) (Z : MZ) (hs cs : Nat → Int32) :
    IV N (sIter (upd fi 1 0, upd la 1 (nI N - 1)) 63).1 (sIter (upd fi 1 0, upd la 1 (nI N - 1)) 63).2 (bNew (sIter (upd fi 1 0, upd la 1 (nI N - 1)) 63) (nI v) B) (gFillH (nI N) (nI v) g0 64, gFillC c0 64, nI N, y)
      (mIter (nI N) (nI v) Z 127).1 (mIter (nI N) (nI v) Z 127).2.1 (mNew (mIter (nI N) (nI v) Z 127)) (gFillH (nI N) (nI v) hs 64) (gFillC cs 64) := by
  have S := spC_new hN1 (show N < 65 by omega) fi la
  have T := spM_new hN1 (show N < 65 by omega) (nI v) Z
  obtain ⟨a1, a2, a3⟩ := new_main hN1 (show N < 65 by omega) (v0 := nI v) (nI_le (a := 0) (Nat.zero_le _) (by omega)) (sIter (upd fi 1 0, upd la 1 (nI N - 1)) 63) S B Z
  refine ⟨hN1, hN, S, T, a2, a1, fun k hk => ?_, fun k hk => ⟨?_, ?_, ?_⟩, rfl⟩
  · rw [a3, gFillH_at _ _ _ 64 k (by omega), if_neg (nI_ge hk (by omega))]
  · dsimp only
    rw [gFillH_at _ _ _ 64 k hk, gFillH_at _ _ _ 64 k hk]
  · dsimp only
    rw [gFillC_at _ 64 k hk, gFillC_at _ 64 k hk]
  · rw [gFillH_at _ _ _ 64 k hk]
    split
    · exact ⟨0, by omega, rfl⟩
    · exact ⟨v, hv0, rfl⟩
theorem iv_pile {N k : Nat} {fi la : Nat → Int32} {B : BK} {G : GK} {mf ml : Nat → Int32} {M : BK} {hs cs : Nat → Int32} {w0 : Int32} (I : IV N fi la B G mf ml M hs cs) (hk : k < N) (hw : ¬ bRng w0 1 1000) (hw2 : hs k + w0 ≤ 1000) (y : Int32) :
    IV N fi la (bRaiseFrom fi la (nI k) (hs k + w0) 7 (bBegin B) 1) (upd G.1 k (hs k + w0), upd G.2.1 k (-1), G.2.2.1, y) mf ml (mUps 7 (mAdd (mDown mf ml (nI k) 7 (bVisit (bBegin M)) 1).1 (mDown mf ml (nI k) 7 (bVisit (bBegin M)) 1).2 w0) (mDown mf ml (nI k) 7 (bVisit (bBegin M)) 1).2) (upd hs k (hs k + w0)) (upd cs k (-1)) := by
  obtain ⟨i1, i2, i3, i4, i5, i6, i7, i8, i9⟩ := I
  obtain ⟨-, -, n, n1, n2⟩ := i8 k (by omega)
  obtain ⟨w, w1, w2, rfl⟩ := rngN (lo := 1) (hi := 1000) (by decide) (by decide) hw
  have hv1 : hs k + nI w = nI (n + w) := by rw [n2, nI_add]
  have hle : n + w ≤ 1000 := by
    rw [hv1, show (1000 : Int32) = nI 1000 from rfl, Int32.le_iff_toInt_le, nI_toInt (by omega), nI_toInt (by decide)] at hw2
    omega
  obtain ⟨M2, j, j1, j2, p1, p2, -, p4⟩ := raise_main (w := nI w) (show N < 65 by omega) i3 i4 (show k < 64 by omega) 7 (bBegin B) (bVisit (bBegin M)) 1 (hs k + nI w) (Ex_1 i1) (by decide) i6 (ag_v (ag_b i5)) (by rw [(sp_root N).1]; omega) (by rw [(sp_root N).2]; omega) (by rw [← i7 k hk]; rfl) (by rw [hv1]; exact nI_le (a := 0) (Nat.zero_le _) (by omega))
  have h3 := j2 (7 - j)
  rw [show 7 - j + j = 7 by omega, mUps_0 (Nat.le_refl 1)] at h3
  rw [h3]
  refine ⟨i1, i2, i3, i4, p2, p1, fun m hm => ?_, fun m hm => ⟨?_, ?_, ?_⟩, i9⟩
  · rw [p4 m (by rw [(sp_root N).1]; omega) (by rw [(sp_root N).2]; omega)]
    by_cases q : m = k
    · subst q; rw [if_pos rfl, pk_us]
    · rw [if_neg q, pk_un q]; exact i7 m hm
  · by_cases q : m = k
    · subst q; dsimp only; rw [pk_us, pk_us]
    · dsimp only; rw [pk_un q, pk_un q]; exact (i8 m hm).1
  · by_cases q : m = k
    · subst q; dsimp only; rw [pk_us, pk_us]
    · dsimp only; rw [pk_un q, pk_un q]; exact (i8 m hm).2.1
  · by_cases q : m = k
    · subst q; rw [pk_us]; exact ⟨n + w, hle, hv1⟩
    · rw [pk_un q]; exact (i8 m hm).2.2
theorem gSum_d {w v : Nat → Int32} {f : Nat} : ∀ n, gSum w f n - gSum v f n = gSum (fun k => w k - v k) f n := by
  intro n
  induction n with
  | zero => show (0 : Int32) - 0 = 0; grind
  | succ n ih => rw [gSum, gSum, gSum, ← ih]; grind
theorem iv_lower {N kf kt c : Nat} {fi la : Nat → Int32} {B : BK} {G : GK} {mf ml : Nat → Int32} {M : BK} {hs cs : Nat → Int32} (I : IV N fi la B G mf ml M hs cs) (hft : kf ≤ kt) (hk : kt < N) (hc : c ≤ 1000) (y : Int32) :
    IV N fi la (bPressFrom fi la (nI kf) (nI kt) (nI c) 7 (bBegin B) 1) (gPressH (nI c) kf G.1 (kt + 1 - kf), gPressC (nI c) kf G.2.1 (kt + 1 - kf), G.2.2.1, y) mf ml (mPress mf ml (nI kf) (nI kt) (nI c) 7 (bBegin M) 1) (mPressH (nI c) kf hs (kt + 1 - kf)) (mPressC (nI c) kf cs (kt + 1 - kf)) ∧
    B.2.2.2.1 1 - (bPressFrom fi la (nI kf) (nI kt) (nI c) 7 (bBegin B) 1).2.2.2.1 1 = mAbove hs kf (kt + 1 - kf) (nI c) := by
  obtain ⟨i1, i2, i3, i4, i5, i6, i7, i8, i9⟩ := I
  have h0 : (0 : Int32) ≤ nI c := nI_le (a := 0) (Nat.zero_le _) (by omega)
  obtain ⟨p1, p2, -, p4⟩ := press_main (a := kf) (b := kt) (c := nI c) (show N < 65 by omega) i3 i4 (by omega) (by omega) h0 7 (bBegin B) (bBegin M) 1 (Ex_1 i1) (by decide) i6 (ag_b i5)
  have p4' : ∀ m, m < N → hv N (row (bPressFrom fi la (nI kf) (nI kt) (nI c) 7 (bBegin B) 1)) 7 1 m = if kf ≤ m ∧ m ≤ kt then bMin (hs m) (nI c) else hs m := by
    intro m hm
    rw [p4 m (by rw [(sp_root N).1]; omega) (by rw [(sp_root N).2]; omega), ← i7 m hm]
    rfl
  refine ⟨⟨i1, i2, i3, i4, p2, p1, fun m hm => ?_, fun m hm => ⟨?_, ?_, ?_⟩, i9⟩, ?_⟩
  · rw [p4' m hm, mPressH_at]
    by_cases q : kf ≤ m ∧ m ≤ kt
    · rw [if_pos q, if_pos (by omega)]
    · rw [if_neg q, if_neg (by omega)]
  · dsimp only
    rw [gPressH_at, mPressH_at, (i8 m hm).1]
  · dsimp only
    rw [gPressC_at, mPressC_at, (i8 m hm).2.1]
  · obtain ⟨n, n1, n2⟩ := (i8 m hm).2.2
    rw [mPressH_at]
    split
    · unfold bMin
      split
      · exact ⟨c, hc, rfl⟩
      · exact ⟨n, n1, n2⟩
    · exact ⟨n, n1, n2⟩
  · have o1 := (Ok_1 (by decide) (by decide) i6).2.2.2.2.2
    have o2 := (Ok_1 (by decide) (by decide) p1).2.2.2.2.2
    rw [(sp_root N).1, (sp_root N).2] at o1 o2
    have e1 : B.2.2.2.1 1 = gSum hs 0 (N - 0) := o1.trans (gSum_c (fun m _ hm => i7 m (by omega)))
    have e2 : (bPressFrom fi la (nI kf) (nI kt) (nI c) 7 (bBegin B) 1).2.2.2.1 1 = gSum (fun m => if kf ≤ m ∧ m ≤ kt then bMin (hs m) (nI c) else hs m) 0 (N - 0) := o2.trans (gSum_c (fun m _ hm => p4' m (by omega)))
    rw [e1, e2, gSum_d, gSum_sp _ (Nat.zero_le kf) (show kf ≤ N by omega), gSum_sp _ (show kf ≤ kt + 1 by omega) (show kt + 1 ≤ N by omega)]
    have z1 : gSum (fun m => hs m - (if kf ≤ m ∧ m ≤ kt then bMin (hs m) (nI c) else hs m)) 0 (kf - 0) = 0 := by
      refine gSum_z (fun m _ hm => ?_)
      rw [if_neg (by omega)]
      grind
    have z2 : gSum (fun m => hs m - (if kf ≤ m ∧ m ≤ kt then bMin (hs m) (nI c) else hs m)) (kt + 1) (N - (kt + 1)) = 0 := by
      refine gSum_z (fun m h1 hm => ?_)
      rw [if_neg (by omega)]
      grind
    rw [z1, z2]
    have z3 : gSum (fun m => hs m - (if kf ≤ m ∧ m ≤ kt then bMin (hs m) (nI c) else hs m)) kf (kt + 1 - kf) = mAbove hs kf (kt + 1 - kf) (nI c) := by
      unfold mAbove
      refine gSum_c (fun m h1 hm => ?_)
      rw [if_pos (by omega)]
      by_cases q : hs m ≤ nI c
      · rw [if_pos q, bMin_r q]; grind
      · rw [if_neg q, bMin_l (Int32.le_of_lt (i_lt q))]
    rw [z3]
    grind
theorem iv_sum {N kf kt : Nat} {fi la : Nat → Int32} {B : BK} {G : GK} {mf ml : Nat → Int32} {M : BK} {hs cs : Nat → Int32} (I : IV N fi la B G mf ml M hs cs) (hft : kf ≤ kt) (hk : kt < N) :
    IV N fi la (bSumFrom fi la (nI kf) (nI kt) 7 (bBegin B) 1).2 G mf ml (mSum mf ml (nI kf) (nI kt) 7 (0, bBegin M) 1).2 hs cs ∧ (mSum mf ml (nI kf) (nI kt) 7 (0, bBegin M) 1).1 = (bSumFrom fi la (nI kf) (nI kt) 7 (bBegin B) 1).1 := by
  obtain ⟨i1, i2, i3, i4, i5, i6, i7, i8, i9⟩ := I
  obtain ⟨p0, p1, p2, -, -, p4⟩ := sum_main (a := kf) (b := kt) (show N < 65 by omega) i3 i4 (by omega) (by omega) 7 (bBegin B) (bBegin M) 1 0 (Ex_1 i1) (by decide) i6 (ag_b i5)
  refine ⟨⟨i1, i2, i3, i4, p1, p2, fun m hm => ?_, i8, i9⟩, by rw [p0]; grind⟩
  rw [p4 m (by rw [(sp_root N).1]; omega) (by rw [(sp_root N).2]; omega), ← i7 m hm]
  rfl
theorem iv_top {N kf kt : Nat} {fi la : Nat → Int32} {B : BK} {G : GK} {mf ml : Nat → Int32} {M : BK} {hs cs : Nat → Int32} (I : IV N fi la B G mf ml M hs cs) (hft : kf ≤ kt) (hk : kt < N) :
    IV N fi la (bTopFrom fi la (nI kf) (nI kt) 7 (bBegin B) 1).2 G mf ml (mGrt mf ml (nI kf) (nI kt) 7 (0, bBegin M) 1).2 hs cs ∧ (mGrt mf ml (nI kf) (nI kt) 7 (0, bBegin M) 1).1 = (bTopFrom fi la (nI kf) (nI kt) 7 (bBegin B) 1).1 := by
  obtain ⟨i1, i2, i3, i4, i5, i6, i7, i8, i9⟩ := I
  obtain ⟨p0, -, p6, p1, p2, -, -, p4⟩ := top_main (a := kf) (b := kt) (show N < 65 by omega) i3 i4 (by omega) (by omega) 7 (bBegin B) (bBegin M) 1 0 (Int32.le_refl _) (Ex_1 i1) (by decide) i6 (ag_b i5)
  refine ⟨⟨i1, i2, i3, i4, p1, p2, fun m hm => ?_, i8, i9⟩, ?_⟩
  · rw [p4 m (by rw [(sp_root N).1]; omega) (by rw [(sp_root N).2]; omega), ← i7 m hm]
    rfl
  · have h := p6 hft (by rw [(sp_root N).1, (sp_root N).2]; omega)
    rw [p0, ← Int32.toInt_inj, bMax_i]
    rw [Int32.le_iff_toInt_le] at h
    have e1 : (0 : Int32).toInt = 0 := rfl
    omega
theorem iv_above {N kf kt c : Nat} {fi la : Nat → Int32} {B : BK} {G : GK} {mf ml : Nat → Int32} {M : BK} {hs cs : Nat → Int32} (I : IV N fi la B G mf ml M hs cs) (hft : kf ≤ kt) (hk : kt < 64) (hc : c ≤ 2000) : gAbove G.1 kf (kt + 1 - kf) (nI c) = mAbove hs kf (kt + 1 - kf) (nI c) := by
  have i8 := I.2.2.2.2.2.2.2.1
  have hh : ∀ k, ∃ n, k < 64 → n ≤ 1000 ∧ hs k = nI n := by
    intro k
    by_cases q : k < 64
    · obtain ⟨n, n1, n2⟩ := (i8 k q).2.2
      exact ⟨n, fun _ => ⟨n1, n2⟩⟩
    · exact ⟨0, fun z => absurd z q⟩
  have hf := fun k => Classical.choose_spec (hh k)
  rw [gAb_n (h := fun k => Classical.choose (hh k)) (fun k q => ⟨(hf k q).1, (i8 k q).1.trans (hf k q).2⟩) hc _ (by omega), mAb_n (h := fun k => Classical.choose (hh k)) (fun k q => hf k q) hc _ (by omega)]
theorem iv_seek {N kf kt w : Nat} {fi la : Nat → Int32} {B : BK} {G : GK} {mf ml : Nat → Int32} {M : BK} {hs cs : Nat → Int32} (I : IV N fi la B G mf ml M hs cs) (hft : kf ≤ kt) (hk : kt < 64) (hw1 : 1 ≤ w) (hw2 : w ≤ 64000) (h0 : nI w ≤ gAbove G.1 kf (kt + 1 - kf) 0) : gHi (gAbove G.1 kf (kt + 1 - kf)) (nI w) 10 0 = nI (mSeek (mAbove hs kf (kt + 1 - kf)) (nI w) 1000) := by
  have i8 := I.2.2.2.2.2.2.2.1
  have hh : ∀ k, ∃ n, k < 64 → n ≤ 1000 ∧ hs k = nI n := by
    intro k
    by_cases q : k < 64
    · obtain ⟨n, n1, n2⟩ := (i8 k q).2.2
      exact ⟨n, fun _ => ⟨n1, n2⟩⟩
    · exact ⟨0, fun z => absurd z q⟩
  have hf := fun k => Classical.choose_spec (hh k)
  exact seek_eq (h := fun k => Classical.choose (hh k)) (fun k q => ⟨(hf k q).1, (i8 k q).1.trans (hf k q).2⟩) (fun k q => hf k q) (by omega) hw1 hw2 h0
/-! what a call is refused for: the same -/
theorem iv_cpile {N : Nat} {fi la : Nat → Int32} {B : BK} {G : GK} {mf ml : Nat → Int32} {M : BK} {hs cs : Nat → Int32} (I : IV N fi la B G mf ml M hs cs) (x w : Int32) : cPile G.2.2.1 G.1 x w = cPile (nI N) hs x w := by
  obtain ⟨i1, i2, i3, i4, i5, i6, i7, i8, i9⟩ := I
  unfold cPile
  rw [i9]
  by_cases q : bCol (nI N) x
  · rw [if_pos q, if_pos q]
  · obtain ⟨k, k1, rfl⟩ := colN q rfl i2
    rw [if_neg q, if_neg q, nI_clamp (by omega), (i8 k (by omega)).1]
theorem iv_cover {N : Nat} {fi la : Nat → Int32} {B : BK} {G : GK} {mf ml : Nat → Int32} {M : BK} {hs cs : Nat → Int32} (I : IV N fi la B G mf ml M hs cs) (x : Int32) : cOver G.2.2.1 G.2.1 x = cOver (nI N) cs x := by
  obtain ⟨i1, i2, i3, i4, i5, i6, i7, i8, i9⟩ := I
  unfold cOver
  rw [i9]
  by_cases q : bCol (nI N) x
  · rw [if_pos q, if_pos q]
  · obtain ⟨k, k1, rfl⟩ := colN q rfl i2
    rw [if_neg q, if_neg q, nI_clamp (by omega), (i8 k (by omega)).2.1]
theorem iv_cfor {N : Nat} {fi la : Nat → Int32} {B : BK} {G : GK} {mf ml : Nat → Int32} {M : BK} {hs cs : Nat → Int32} (I : IV N fi la B G mf ml M hs cs) (x y w : Int32) : cFor G.2.2.1 G.1 x y w = mFor (nI N) hs x y w := by
  have i2 := I.2.1
  have i9 := I.2.2.2.2.2.2.2.2
  unfold cFor mFor
  rw [i9]
  by_cases q : bCol (nI N) x ∨ bCol (nI N) y
  · rw [if_pos q, if_pos q]
  · rw [if_neg q, if_neg q]
    by_cases q2 : y < x ∨ bRng w 1 64000
    · rw [if_pos q2, if_pos q2]
    · obtain ⟨f, t, h1, h2, rfl, rfl⟩ := spN ⟨q, fun z => q2 (Or.inl z)⟩ rfl i2
      rw [if_neg q2, if_neg q2, nI_clamp (by omega), nI_clamp (by omega)]
      have := iv_above I h1 (by omega) (c := 0) (by decide)
      rw [show (0 : Int32) = nI 0 from rfl, this]
theorem iv_ent {N : Nat} {fi la : Nat → Int32} {B : BK} {G : GK} {mf ml : Nat → Int32} {M : BK} {hs cs : Nat → Int32} (I : IV N fi la B G mf ml M hs cs) (x : Int32) : (cEnt la x = 0 ∧ mEnt mf x) ∨ (cEnt la x = 1 ∧ ¬ mEnt mf x) := by
  have h := ent_iff (x := x) (show N < 65 by have := I.2.1; omega) I.2.2.1 I.2.2.2.1
  unfold cEnt
  by_cases q : bHas la x
  · exact Or.inl ⟨if_pos q, h.mp q⟩
  · exact Or.inr ⟨if_neg q, fun z => q (h.mpr z)⟩
theorem iv_at {N k : Nat} {fi la : Nat → Int32} {B : BK} {G : GK} {mf ml : Nat → Int32} {M : BK} {hs cs : Nat → Int32} (I : IV N fi la B G mf ml M hs cs) (h1 : 1 ≤ k) (h2 : k < 128) (h3 : ¬ mf k < 0) : mf k = fi k ∧ ml k = la k ∧ M.1 k = B.1 k ∧ M.2.1 k = B.2.1 k ∧ M.2.2.1 k = B.2.2.1 k ∧ M.2.2.2.1 k = B.2.2.2.1 k := by
  obtain ⟨i1, i2, i3, i4, i5, i6, i7, i8, i9⟩ := I
  obtain ⟨s1, s2⟩ := i3 k h1 h2
  obtain ⟨t1, t2⟩ := i4 k h1 h2
  have hE : Ex N k := by
    refine ⟨h1, h2, Classical.not_not.mp (fun q => ?_)⟩
    rw [t1, if_neg q] at h3
    exact h3 (by decide)
  rw [if_pos hE.2.2] at t1
  exact ⟨t1.trans s1.symm, t2.trans s2.symm, ag_g i5 hE⟩
theorem iv_height {N k : Nat} {fi la : Nat → Int32} {B : BK} {G : GK} {mf ml : Nat → Int32} {M : BK} {hs cs : Nat → Int32} (I : IV N fi la B G mf ml M hs cs) (h : k < N) : bLeast fi la B.1 (nI k) 126 = hs k := by
  obtain ⟨i1, i2, i3, i4, i5, i6, i7, i8, i9⟩ := I
  rw [least_main i1 (by omega) i3 h]
  exact i7 k h
theorem iv_lags {N : Nat} {fi la : Nat → Int32} {B : BK} {G : GK} {mf ml : Nat → Int32} {M : BK} {hs cs : Nat → Int32} (I : IV N fi la B G mf ml M hs cs) : bLags la B 126 = mLags mf M 126 :=
  lags_eq (show N < 65 by have := I.2.1; omega) I.2.2.1 I.2.2.2.1 I.2.2.2.2.1 126 (Nat.le_refl _)
