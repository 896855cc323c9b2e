/-! what an entry has noted, and the way from the first entry down to a column -/
theorem n_le1b {a b : Nat} (ha : a < 100000) (hb : b < 100000) : nI b - 1 < nI a ↔ b ≤ a := by
  rw [i_lt', show (1 : Int32) = nI 1 from rfl, pk_sub_toInt (by omega) (by omega), nI_toInt (by omega)]
  omega
theorem n_le2b {a b : Nat} (ha : a < 100000) (hb : b < 100000) : nI a ≤ nI b - 1 ↔ a + 1 ≤ b := by
  rw [Int32.le_iff_toInt_le, show (1 : Int32) = nI 1 from rfl, pk_sub_toInt (by omega) (by omega), nI_toInt (by omega)]
  omega
theorem i_m1 {x : Int32} {b : Int} (h1 : -1 ≤ x) (h2 : x.toInt < b) (hb : b ≤ 5000) : ∃ s : Nat, (s : Int) ≤ b ∧ x = nI s - 1 := by
  rw [Int32.le_iff_toInt_le] at h1
  have e0 : (-1 : Int32).toInt = -1 := rfl
  refine ⟨(x.toInt + 1).toNat, by omega, ?_⟩
  rw [← Int32.toInt_inj, show (1 : Int32) = nI 1 from rfl, pk_sub_toInt (by omega) (by omega)]
  omega
theorem i_n0 {x : Int32} {b : Nat} (h1 : 0 ≤ x) (h2 : x ≤ nI b) (hb : b ≤ 100000) : ∃ g : Nat, g ≤ b ∧ x = nI g := by
  rw [Int32.le_iff_toInt_le] at h1 h2
  rw [nI_toInt (by omega)] at h2
  have e0 : (0 : Int32).toInt = 0 := rfl
  refine ⟨x.toInt.toNat, by omega, ?_⟩
  rw [← Int32.toInt_inj, nI_toInt (by omega)]
  omega
/-- an entry's four numbers as naturals, with the heights as the entry sees them -/
theorem ent_tl {r : RW} {h : Nat → Int32} {lo hi : Nat} (H : Ok1 r h lo hi) (hlt : lo < hi) (h64 : hi ≤ 64) (hb : r.1 ≤ 1000) (h0 : ∀ k, lo ≤ k → k < hi → 0 ≤ h k) :
    ∃ (g s m : Nat) (w : Nat → Nat), r.1 = nI g ∧ r.2.1 = nI s - 1 ∧ r.2.2.1 = nI m ∧ r.2.2.2 = nI (nSum w lo 0 (hi - lo)) ∧ g ≤ 1000 ∧ (∀ k, lo ≤ k → k < hi → h k = nI (w k) ∧ w k ≤ g) ∧ Tl w lo (hi - lo) s m g := by
  obtain ⟨a1, a2, a3, a4, a5, a6, ⟨k7, i7, j7, e7⟩, a8⟩ := H
  obtain ⟨g, g1, g2⟩ := i_n0 (b := 1000) a1 hb (by decide)
  obtain ⟨s, s1, s2⟩ := i_m1 (x := r.2.1) (b := (g : Int)) a2 (by rw [i_lt', g2, nI_toInt (by omega)] at a3; exact a3) (by omega)
  have hw : ∀ k, lo ≤ k → k < hi → h k = nI (h k).toInt.toNat ∧ (h k).toInt.toNat ≤ g := by
    intro k h1 h2
    have hle : h k ≤ nI g := by
      rcases a4 k h1 h2 with q | q
      · rw [q, g2]; exact Int32.le_refl _
      · rw [← g2]; exact Int32.le_trans q (Int32.le_of_lt a3)
    obtain ⟨x, x1, x2⟩ := i_n0 (h0 k h1 h2) hle (by omega)
    rw [x2, nI_toInt (by omega)]
    exact ⟨rfl, x1⟩
  have h3 : ∀ k, lo ≤ k → k < lo + (hi - lo) → h k = nI (h k).toInt.toNat ∧ (h k).toInt.toNat < 100000 := fun k h1 h2 => ⟨(hw k h1 (by omega)).1, by have := (hw k h1 (by omega)).2; omega⟩
  refine ⟨g, s, nCnt (fun k => (h k).toInt.toNat) g lo (hi - lo), fun k => (h k).toInt.toNat, g2, s2, ?_, ?_, g1, hw, fun k h1 h2 => ⟨(hw k h1 (by omega)).2, ?_⟩, by omega, rfl, fun _ => ⟨k7, i7, by omega, ?_⟩, ?_, fun q => by omega⟩
  · rw [a5, g2]
    exact nCnt_g (by omega) h3
  · rw [a6]
    exact g_n (fun k h1 h2 => (h3 k h1 h2).1)
  · dsimp only
    obtain ⟨x1, x2⟩ := hw k h1 (by omega)
    rcases a4 k h1 (by omega) with q | q
    · left
      rw [x1, g2] at q
      exact (nI_eq (by omega) (by omega)).mp q
    · right
      rw [x1, s2] at q
      exact (n_le2b (by omega) (by omega)).mp q
  · dsimp only
    rw [e7, g2, nI_toInt (by omega)]
    rfl
  · rcases a8 with q | ⟨k, i, j, e⟩
    · left
      rw [s2] at q
      have h2 := congrArg Int32.toInt q
      rw [show (1 : Int32) = nI 1 from rfl, pk_sub_toInt (by omega) (by omega)] at h2
      have h3 : (-(nI 1)).toInt = -1 := rfl
      omega
    · right
      refine ⟨k, i, by omega, ?_⟩
      dsimp only
      have x0 := h0 k i j
      rw [e, s2] at x0
      have y0 : (0 : Int32).toInt = 0 := rfl
      rw [Int32.le_iff_toInt_le, y0, show (1 : Int32) = nI 1 from rfl, pk_sub_toInt (by omega) (by omega)] at x0
      rw [e, s2, show (1 : Int32) = nI 1 from rfl, pk_sub_toInt (by omega) (by omega)]
      omega
/-- an entry on the way to column x, and L, the least greatest height above it -/
def Pw (N : Nat) (hs : Nat → Nat) (R : Nat → RW) (x e L : Nat) : Prop :=
  ∃ d, 128 ≤ e * 2 ^ d ∧ Ok N R d e ∧ Ex N e ∧ slo N e ≤ x ∧ x < shi N e ∧ L ≤ 1000 ∧ ∀ k, slo N e ≤ k → k < shi N e → nI (hs k) = bMin (hv N R d e k) (nI L)
theorem pw_root {N x g : Nat} {hs cs : Nat → Nat} {vis tot cal : Nat} {fi la : Nat → Int32} {B : BK} {G : GK} {pr : Int32} (I : J N hs cs vis tot cal fi la B G pr) (hx : x < N) (hg : B.1 1 = nI g) (hg2 : g ≤ 1000) : Pw N hs (row B) x 1 g := by
  obtain ⟨i1, i2, i3, i4, i5, i6, -⟩ := I
  refine ⟨7, by decide, i4, Ex_1 i1, by rw [(sp_root N).1]; omega, by rw [(sp_root N).2]; omega, hg2, fun k _ hk => ?_⟩
  rw [(sp_root N).2] at hk
  rw [i6 k hk]
  have := hv_le (N := N) (R := row B) 7 1 k
  rw [i6 k hk] at this
  exact (bMin_r (Int32.le_trans this (by rw [← hg]; exact Int32.le_refl _))).symm
theorem pw_ent {N x e L : Nat} {hs : Nat → Nat} {B : BK} (hN : N < 65) (P : Pw N hs (row B) x e L) (hb : Bd B.1) (hh : ∀ k, k < 64 → hs k ≤ 1000) :
    ∃ (g s m u : Nat) (w : Nat → Nat), B.1 e = nI g ∧ B.2.1 e = nI s - 1 ∧ B.2.2.1 e = nI m ∧ B.2.2.2.1 e = nI u ∧ u = nSum w (slo N e) 0 (shi N e - slo N e) ∧ g ≤ 1000 ∧ (∀ k, slo N e ≤ k → k < shi N e → w k ≤ g ∧ hs k = min (w k) L) ∧ Tl w (slo N e) (shi N e - slo N e) s m g := by
  obtain ⟨d, p1, p2, p3, p4, p5, p6, p7⟩ := P
  obtain ⟨q1, q2, q3⟩ := sp_in N hN e p3.2.1 p3.1
  have H := Ok_1 p3.2.1 p1 p2
  obtain ⟨g, s, m, w, e1, e2, e3, e4, e5, e6, e7⟩ := ent_tl H p3.2.2 q3 (hb e p3.1 p3.2.1) (fun k h1 h2 => by
    have h3 : bMin (hv N (row B) d e k) (nI L) ≤ hv N (row B) d e k := bMin_ll _ _
    rw [← p7 k h1 h2] at h3
    have := hh k (by omega)
    exact Int32.le_trans (nI_le (a := 0) (Nat.zero_le _) (by omega)) h3)
  refine ⟨g, s, m, _, w, e1, e2, e3, e4, rfl, e5, fun k h1 h2 => ?_, e7⟩
  obtain ⟨y1, y2⟩ := e6 k h1 h2
  refine ⟨y2, ?_⟩
  have h3 := p7 k h1 h2
  have := hh k (by omega)
  rw [y1, ← Int32.toInt_inj, bMin_i, nI_toInt (by omega), nI_toInt (by omega), nI_toInt (by omega)] at h3
  omega
theorem pw_kid {N x e L g : Nat} {hs : Nat → Nat} {B : BK} (hN : N < 65) (P : Pw N hs (row B) x e L) (hp : Pt N e) (hg : B.1 e = nI g) (hg2 : g ≤ 1000) : Pw N hs (row B) x (kid N e x) (min g L) := by
  obtain ⟨d, p1, p2, p3, p4, p5, p6, p7⟩ := P
  cases d with
  | zero => have := p3.2.1; simp at p1; omega
  | succ d =>
    obtain ⟨E0, E1, s1, s2, s3, s4, s5⟩ := Ex_kids hN p3 hp
    obtain ⟨i1, i2, i3⟩ := kid_in hN p3 hp p4 p5
    have hd : 128 ≤ kid N e x * 2 ^ d := by
      rcases kid_e (N := N) (e := e) (k := x) with q | q
      · rw [q]; exact pw_1 p1
      · rw [q]; exact pw_2 p1
    have hO : Ok N (row B) d (kid N e x) := by
      rcases kid_e (N := N) (e := e) (k := x) with q | q
      · rw [q]; exact (p2.2.1 hp).1
      · rw [q]; exact (p2.2.1 hp).2.1
    refine ⟨d, hd, hO, i1, i2, i3, by omega, fun k h1 h2 => ?_⟩
    have hk : kid N e k = kid N e x := by
      unfold kid at h1 h2 ⊢
      by_cases q : x < shi N (2 * e)
      · rw [if_pos q] at h1 h2 ⊢
        rw [if_pos h2]
      · rw [if_neg q] at h1 h2 ⊢
        rw [if_neg (by omega)]
    have hin : slo N e ≤ k ∧ k < shi N e := by
      unfold kid at h1 h2
      by_cases q : x < shi N (2 * e)
      · rw [if_pos q] at h1 h2; omega
      · rw [if_neg q] at h1 h2; omega
    rw [p7 k hin.1 hin.2, hv_pt hp, hk, bMin_a]
    congr 1
    show bMin (B.1 e) (nI L) = _
    rw [hg, ← Int32.toInt_inj, bMin_i, nI_toInt (by omega), nI_toInt (by omega), nI_toInt (by omega)]
    omega
