def mFor (col : Int32) (hs : Nat → Int32) (x y w : Int32) : Int32 := if bCol col x ∨ bCol col y then 1 else if y < x ∨ bRng w 1 64000 then 2 else if mAbove hs x.toNatClampNeg (y.toNatClampNeg + 1 - x.toNatClampNeg) 0 < w then 3 else 0
theorem mFor3 {col w : Int32} {hs : Nat → Int32} {f t : Nat} (hf : f ≤ t) (ht : t < 64) (h0 : nSp col (nI f) (nI t)) (h1 : ¬ bRng w 1 64000) : mFor col hs (nI f) (nI t) w = if mAbove hs f (t + 1 - f) 0 < w then 3 else 0 := by rw [mFor, if_neg h0.1, if_neg (fun q => q.elim h0.2 h1), nI_clamp (by omega), nI_clamp (by omega)]
theorem mSeek_s {A : Int32 → Int32} {w : Int32} {cc : Nat} (h1 : 1 ≤ cc) (h : ¬ w ≤ A (nI cc)) : mSeek A w (cc - 1) = mSeek A w cc := by
  obtain ⟨j, rfl⟩ : ∃ j, cc = j + 1 := ⟨cc - 1, by omega⟩
  show mSeek A w j = if w ≤ A (nI (j + 1)) then j + 1 else mSeek A w j
  rw [if_neg h]
theorem mSeek_e {A : Int32 → Int32} {w : Int32} {cc : Nat} (h : w ≤ A (nI cc)) : mSeek A w cc = cc := by
  cases cc with
  | zero => rfl
  | succ j => exact if_pos h
theorem mSeek_p {A : Int32 → Int32} {w : Int32} {cc : Nat} (h0 : w ≤ A 0) (h : ¬ w ≤ A (nI cc)) : 1 ≤ cc := by
  rcases Nat.eq_zero_or_pos cc with q | q
  · subst q; exact absurd h0 h
  · exact q
abbrev mEnt (fi : Nat → Int32) (x : Int32) : Prop := ¬ bRng x 1 127 ∧ ¬ fi x.toNatClampNeg < 0
theorem entM {x : Int32} (h : ¬ bRng x 1 127) : ∃ k, 1 ≤ k ∧ k < 128 ∧ x = nI k := by
  rcases pk_ix x (n := 128) (by omega) with q | q | ⟨j, h1, h3⟩
  · exact absurd (Or.inl (Int32.lt_of_lt_of_le q (show (0 : Int32) ≤ 1 by decide))) h
  · exact absurd (Or.inr (fun r => absurd (Int32.le_trans q r) (by decide))) h
  · subst h3
    refine ⟨j, ?_, h1, rfl⟩
    rcases Nat.lt_or_ge j 1 with q | q
    · exact absurd (Or.inl (nI_lt (b := 1) q (by decide))) h
    · exact q
theorem mDn_0 {fi la : Nat → Int32} {x : Int32} {d e : Nat} {B : BK} (he : e < 128) (hd : 128 ≤ e * 2 ^ d) (h : la e ≤ fi e) : mDown fi la x d B e = (B, e) := by
  cases d with
  | zero => rfl
  | succ d => exact if_neg (fun q => q h)
theorem mDn_s {fi la : Nat → Int32} {x : Int32} {d e : Nat} {B : BK} (he : e < 128) (hd : 128 ≤ e * 2 ^ d) (h : ¬ la e ≤ fi e) : 1 ≤ d ∧ mDown fi la x d B e = mDown fi la x (d - 1) (bVisit (mCatch2 B e)) (bKid la x e) := by
  cases d with
  | zero => simp at hd; omega
  | succ d => exact ⟨by omega, if_pos h⟩
theorem pw_d {e d k : Nat} (hd : 128 ≤ e * 2 ^ d) (h1 : 1 ≤ d) (hk : k = 2 * e ∨ k = 2 * e + 1) : 128 ≤ k * 2 ^ (d - 1) := by
  obtain ⟨j, rfl⟩ : ∃ j, d = j + 1 := ⟨d - 1, by omega⟩
  rcases hk with rfl | rfl
  · exact pw_1 hd
  · exact pw_2 hd
theorem mUps_0 {n e : Nat} {B : BK} (h : e ≤ 1) : mUps n B e = B := by
  cases n with
  | zero => rfl
  | succ n => exact if_pos h
theorem mUps_s {n e : Nat} {B : BK} (hn : e < 2 ^ n) (h : 1 < e) : 1 ≤ n ∧ mUps n B e = mUps (n - 1) (mTell B (e / 2)) (e / 2) := by
  cases n with
  | zero => simp at hn; omega
  | succ n => exact ⟨by omega, if_neg (by omega)⟩
theorem pw_u {e n : Nat} (hn : e < 2 ^ n) (h1 : 1 ≤ n) : e / 2 < 2 ^ (n - 1) := by
  obtain ⟨j, rfl⟩ : ∃ j, n = j + 1 := ⟨n - 1, by omega⟩
  rw [Nat.pow_succ] at hn
  show e / 2 < 2 ^ j
  omega
