/-! the columns kept one by one -/
/-! the columns kept one by one -/
theorem rngN {x : Int32} {lo hi : Nat} (hh : hi < 1000000) (hl : lo ≤ hi) (h : ¬ bRng x (nI lo) (nI hi)) : ∃ k, lo ≤ k ∧ k ≤ hi ∧ x = nI k := by
  have h1 : nI lo ≤ x := i_le (fun z => h (Or.inl z))
  have h2 : x ≤ nI hi := Classical.not_not.mp (fun z => h (Or.inr z))
  rw [Int32.le_iff_toInt_le, nI_toInt (by omega)] at h1 h2
  rcases pk_ix x (n := hi + 1) (by omega) with q | q | ⟨j, h3, h4⟩
  · rw [i_lt'] at q
    have e1 : (0 : Int32).toInt = 0 := rfl
    omega
  · rw [Int32.le_iff_toInt_le, nI_toInt (by omega)] at q
    omega
  · subst h4
    rw [nI_toInt (by omega)] at h1
    exact ⟨j, by omega, by omega, rfl⟩
theorem gFillH_at (n0 v0 : Int32) (hs : Nat → Int32) : ∀ n k, k < n → gFillH n0 v0 hs n k = if n0 ≤ nI k then 0 else v0 := by
  intro n
  induction n with
  | zero => intro k h; omega
  | succ n ih =>
    intro k h
    rw [gFillH]
    by_cases q : k = n
    · subst q; rw [pk_us]
    · rw [pk_un q]; exact ih k (by omega)
theorem gFillC_at (cs : Nat → Int32) : ∀ n k, k < n → gFillC cs n k = -1 := by
  intro n
  induction n with
  | zero => intro k h; omega
  | succ n ih =>
    intro k h
    rw [gFillC]
    by_cases q : k = n
    · subst q; rw [pk_us]
    · rw [pk_un q]; exact ih k (by omega)
theorem gPressH_at (c : Int32) (f : Nat) (hs : Nat → Int32) : ∀ n k, gPressH c f hs n k = if f ≤ k ∧ k < f + n then bMin (hs k) c else hs k := by
  intro n
  induction n with
  | zero => intro k; rw [if_neg (by omega)]; rfl
  | succ n ih =>
    intro k
    rw [gPressH]
    by_cases q : k = f + n
    · subst q; rw [pk_us, ih, if_neg (by omega), if_pos (by omega)]
    · rw [pk_un q, ih]
      by_cases z : f ≤ k ∧ k < f + n
      · rw [if_pos z, if_pos (by omega)]
      · rw [if_neg z, if_neg (by omega)]
theorem gPressC_at (c : Int32) (f : Nat) (cs : Nat → Int32) : ∀ n k, gPressC c f cs n k = if f ≤ k ∧ k < f + n then (if cs k = -1 ∨ c < cs k then c else cs k) else cs k := by
  intro n
  induction n with
  | zero => intro k; rw [if_neg (by omega)]; rfl
  | succ n ih =>
    intro k
    rw [gPressC]
    have e : gPressC c f cs n (f + n) = cs (f + n) := by rw [ih, if_neg (by omega)]
    rw [e]
    by_cases q : k = f + n
    · subst q
      rw [if_pos (show f ≤ f + n ∧ f + n < f + (n + 1) by omega)]
      split
      · rw [pk_us]
      · exact e
    · have e2 : (if cs (f + n) = -1 ∨ c < cs (f + n) then upd (gPressC c f cs n) (f + n) c else gPressC c f cs n) k = gPressC c f cs n k := by
        split
        · rw [pk_un q]
        · rfl
      rw [e2, ih]
      by_cases z : f ≤ k ∧ k < f + n
      · rw [if_pos z, if_pos (show f ≤ k ∧ k < f + (n + 1) by omega)]
      · rw [if_neg z, if_neg (show ¬ (f ≤ k ∧ k < f + (n + 1)) by omega)]
/-- above a ceiling, in naturals -/
def nSum (h : Nat → Nat) (f c : Nat) : Nat → Nat
  | 0 => 0
  | n + 1 => nSum h f c n + (h (f + n) - c)
theorem nSum_le {h : Nat → Nat} {f c : Nat} (hh : ∀ k, k < 64 → h k ≤ 1000) : ∀ n, f + n ≤ 64 → nSum h f c n ≤ 1000 * n := by
  intro n
  induction n with
  | zero => intro _; exact Nat.le_refl _
  | succ n ih =>
    intro hn
    have := ih (by omega)
    have := hh (f + n) (by omega)
    rw [nSum]
    omega
theorem nSum_z {h : Nat → Nat} {f c : Nat} (hh : ∀ k, k < 64 → h k ≤ 1000) (hc : 1000 ≤ c) : ∀ n, f + n ≤ 64 → nSum h f c n = 0 := by
  intro n
  induction n with
  | zero => intro _; rfl
  | succ n ih =>
    intro hn
    have := ih (by omega)
    have := hh (f + n) (by omega)
    rw [nSum]
    omega
theorem nSum_mo {h : Nat → Nat} {f c c' : Nat} (hc : c ≤ c') : ∀ n, nSum h f c' n ≤ nSum h f c n := by
  intro n
  induction n with
  | zero => exact Nat.le_refl _
  | succ n ih => rw [nSum, nSum]; omega
theorem gAb_n {H : Nat → Int32} {h : Nat → Nat} (hh : ∀ k, k < 64 → h k ≤ 1000 ∧ H k = nI (h k)) {f c : Nat} (hc : c ≤ 2000) : ∀ n, f + n ≤ 64 → gAbove H f n (nI c) = nI (nSum h f c n) := by
  intro n
  induction n with
  | zero => intro _; rfl
  | succ n ih =>
    intro hn
    obtain ⟨h1, h2⟩ := hh (f + n) (by omega)
    have e : bMax (H (f + n) - nI c) 0 = nI (h (f + n) - c) := by
      rw [← Int32.toInt_inj, bMax_i, h2, pk_sub_toInt (by omega) (by omega), nI_toInt (by omega)]
      have e1 : (0 : Int32).toInt = 0 := rfl
      omega
    have ih := ih (by omega)
    unfold gAbove at ih ⊢
    rw [gSum, ih, nSum, e, nI_add]
theorem gHi_P {A : Int32 → Int32} {w : Int32} : ∀ (j c : Nat), w ≤ A (nI c) → ¬ w ≤ A (nI (c + 2 ^ j)) → ∃ r, gHi A w j (nI c) = nI r ∧ w ≤ A (nI r) ∧ ¬ w ≤ A (nI (r + 1)) := by
  intro j
  induction j with
  | zero => intro c h1 h2; exact ⟨c, rfl, h1, h2⟩
  | succ j ih =>
    intro c h1 h2
    rw [gHi, nI_add]
    by_cases q : w ≤ A (nI (c + 2 ^ j))
    · rw [if_pos q]
      exact ih (c + 2 ^ j) q (by rw [Nat.pow_succ, Nat.mul_comm, Nat.two_mul, ← Nat.add_assoc] at h2; exact h2)
    · rw [if_neg q]
      exact ih c h1 q
