/-! the columns kept one by one -/
theorem rngN {x : Int32} {lo hi : Nat} (hh : hi < 1000000) (hl : lo ≤ hi) (h : ¬ bRng x (nI lo) (nI hi)) : ∃ k, lo ≤ k ∧ k ≤ hi ∧ x = nI k := by
  have h1 : nI lo ≤ x := i_le (fun z => h (Or.inl z))
  have h2 : x ≤ nI hi := Classical.not_not.mp (fun z => h (Or.inr z))
  rw [Int32.le_iff_toInt_le, nI_toInt (by omega)] at h1 h2
  rcases pk_ix x (n := hi + 1) (by omega) with q | q | ⟨j, h3, h4⟩
  · rw [i_lt'] at q
    have e1 : (0 : Int32).toInt = 0 := rfl
    omega
  · rw [Int32.le_iff_toInt_le, nI_toInt (by omega)] at q
    omega
  · subst h4
    rw [nI_toInt (by omega)] at h1
    exact ⟨j, by omega, by omega, rfl⟩
theorem gFillH_at (n0 v0 : Int32) (hs : Nat → Int32) : ∀ n k, k < n → gFillH n0 v0 hs n k = if n0 ≤ nI k then 0 else v0 := by
  intro n
  induction n with
  | zero => intro k h; omega
  | succ n ih =>
    intro k h
    rw [gFillH]
    by_cases q : k = n
    · subst q; rw [pk_us]
    · rw [pk_un q]; exact ih k (by omega)
theorem gFillC_at (cs : Nat → Int32) : ∀ n k, k < n → gFillC cs n k = -1 := by
  intro n
  induction n with
  | zero => intro k h; omega
  | succ n ih =>
    intro k h
    rw [gFillC]
    by_cases q : k = n
    · subst q; rw [pk_us]
    · rw [pk_un q]; exact ih k (by omega)
theorem gPressH_at (c : Int32) (f : Nat) (hs : Nat → Int32) : ∀ n k, gPressH c f hs n k = if f ≤ k ∧ k < f + n then bMin (hs k) c else hs k := by
  intro n
  induction n with
  | zero => intro k; rw [if_neg (by omega)]; rfl
  | succ n ih =>
    intro k
    rw [gPressH]
    by_cases q : k = f + n
    · subst q; rw [pk_us, ih, if_neg (by omega), if_pos (by omega)]
    · rw [pk_un q, ih]
      by_cases z : f ≤ k ∧ k < f + n
      · rw [if_pos z, if_pos (by omega)]
      · rw [if_neg z, if_neg (by omega)]
theorem mPressH_at (c : Int32) (f : Nat) (hs : Nat → Int32) : ∀ n k, mPressH c f hs n k = if f ≤ k ∧ k < f + n then bMin (hs k) c else hs k := by
  intro n
  induction n with
  | zero => intro k; rw [if_neg (by omega)]; rfl
  | succ n ih =>
    intro k
    rw [mPressH]
    by_cases q : k = f + n
    · subst q
      have e : mPressH c f hs n (f + n) = hs (f + n) := by rw [ih, if_neg (by omega)]
      rw [pk_us, e, if_pos (show f ≤ f + n ∧ f + n < f + (n + 1) by omega), ← Int32.toInt_inj, bMin_i]
      split
      · rename_i w; rw [Int32.le_iff_toInt_le] at w; omega
      · rename_i w; rw [Int32.le_iff_toInt_le] at w; omega
    · rw [pk_un q, ih]
      by_cases z : f ≤ k ∧ k < f + n
      · rw [if_pos z, if_pos (by omega)]
      · rw [if_neg z, if_neg (by omega)]
theorem gPressC_at (c : Int32) (f : Nat) (cs : Nat → Int32) : ∀ n k, gPressC c f cs n k = if f ≤ k ∧ k < f + n then (if cs k = -1 ∨ c < cs k then c else cs k) else cs k := by
  intro n
  induction n with
  | zero => intro k; rw [if_neg (by omega)]; rfl
  | succ n ih =>
    intro k
    rw [gPressC]
    have e : gPressC c f cs n (f + n) = cs (f + n) := by rw [ih, if_neg (by omega)]
    rw [e]
    by_cases q : k = f + n
    · subst q
      rw [if_pos (show f ≤ f + n ∧ f + n < f + (n + 1) by omega)]
      split
      · rw [pk_us]
      · exact e
    · have e2 : (if cs (f + n) = -1 ∨ c < cs (f + n) then upd (gPressC c f cs n) (f + n) c else gPressC c f cs n) k = gPressC c f cs n k := by
        split
        · rw [pk_un q]
        · rfl
      rw [e2, ih]
      by_cases z : f ≤ k ∧ k < f + n
      · rw [if_pos z, if_pos (show f ≤ k ∧ k < f + (n + 1) by omega)]
      · rw [if_neg z, if_neg (show ¬ (f ≤ k ∧ k < f + (n + 1)) by omega)]
theorem mPressC_at (c : Int32) (f : Nat) (cs : Nat → Int32) : ∀ n k, mPressC c f cs n k = if f ≤ k ∧ k < f + n then (if cs k = -1 ∨ c < cs k then c else cs k) else cs k := by
  intro n
  induction n with
  | zero => intro k; rw [if_neg (by omega)]; rfl
  | succ n ih =>
    intro k
    rw [mPressC]
    have e : mPressC c f cs n (f + n) = cs (f + n) := by rw [ih, if_neg (by omega)]
    rw [e]
    by_cases q : k = f + n
    · subst q
      rw [pk_us, if_pos (show f ≤ f + n ∧ f + n < f + (n + 1) by omega)]
    · rw [pk_un q, ih]
      by_cases z : f ≤ k ∧ k < f + n
      · rw [if_pos z, if_pos (show f ≤ k ∧ k < f + (n + 1) by omega)]
      · rw [if_neg z, if_neg (show ¬ (f ≤ k ∧ k < f + (n + 1)) by omega)]
/-- above a ceiling, in naturals -/
def nSum (h : Nat → Nat) (f c : Nat) : Nat → Nat
  | 0 => 0
  | n + 1 => nSum h f c n + (h (f + n) - c)
theorem nSum_le {h : Nat → Nat} {f c : Nat} (hh : ∀ k, k < 64 → h k ≤ 1000) : ∀ n, f + n ≤ 64 → nSum h f c n ≤ 1000 * n := by
  intro n
  induction n with
  | zero => intro _; exact Nat.le_refl _
  | succ n ih =>
    intro hn
    have := ih (by omega)
    have := hh (f + n) (by omega)
    rw [nSum]
    omega
theorem nSum_z {h : Nat → Nat} {f c : Nat} (hh : ∀ k, k < 64 → h k ≤ 1000) (hc : 1000 ≤ c) : ∀ n, f + n ≤ 64 → nSum h f c n = 0 := by
  intro n
  induction n with
  | zero => intro _; rfl
  | succ n ih =>
    intro hn
    have := ih (by omega)
    have := hh (f + n) (by omega)
    rw [nSum]
    omega
theorem nSum_mo {h : Nat → Nat} {f c c' : Nat} (hc : c ≤ c') : ∀ n, nSum h f c' n ≤ nSum h f c n := by
  intro n
  induction n with
  | zero => exact Nat.le_refl _
  | succ n ih => rw [nSum, nSum]; omega
theorem gAb_n {H : Nat → Int32} {h : Nat → Nat} (hh : ∀ k, k < 64 → h k ≤ 1000 ∧ H k = nI (h k)) {f c : Nat} (hc : c ≤ 2000) : ∀ n, f + n ≤ 64 → gAbove H f n (nI c) = nI (nSum h f c n) := by
  intro n
  induction n with
  | zero => intro _; rfl
  | succ n ih =>
    intro hn
    obtain ⟨h1, h2⟩ := hh (f + n) (by omega)
    have e : bMax (H (f + n) - nI c) 0 = nI (h (f + n) - c) := by
      rw [← Int32.toInt_inj, bMax_i, h2, pk_sub_toInt (by omega) (by omega), nI_toInt (by omega)]
      have e1 : (0 : Int32).toInt = 0 := rfl
      omega
    have ih := ih (by omega)
    unfold gAbove at ih ⊢
    rw [gSum, ih, nSum, e, nI_add]
theorem mAb_n {H : Nat → Int32} {h : Nat → Nat} (hh : ∀ k, k < 64 → h k ≤ 1000 ∧ H k = nI (h k)) {f c : Nat} (hc : c ≤ 2000) : ∀ n, f + n ≤ 64 → mAbove H f n (nI c) = nI (nSum h f c n) := by
  intro n
  induction n with
  | zero => intro _; rfl
  | succ n ih =>
    intro hn
    obtain ⟨h1, h2⟩ := hh (f + n) (by omega)
    have e : (if H (f + n) ≤ nI c then 0 else H (f + n) - nI c) = nI (h (f + n) - c) := by
      rw [h2, ← Int32.toInt_inj, nI_toInt (by omega)]
      split
      · rename_i w
        rw [Int32.le_iff_toInt_le, nI_toInt (by omega), nI_toInt (by omega)] at w
        have e1 : (0 : Int32).toInt = 0 := rfl
        omega
      · rename_i w
        rw [Int32.le_iff_toInt_le, nI_toInt (by omega), nI_toInt (by omega)] at w
        rw [pk_sub_toInt (by omega) (by omega)]
        omega
    have ih := ih (by omega)
    unfold mAbove at ih ⊢
    rw [gSum, ih, nSum, e, nI_add]
theorem gHi_P {A : Int32 → Int32} {w : Int32} : ∀ (j c : Nat), w ≤ A (nI c) → ¬ w ≤ A (nI (c + 2 ^ j)) → ∃ r, gHi A w j (nI c) = nI r ∧ w ≤ A (nI r) ∧ ¬ w ≤ A (nI (r + 1)) := by
  intro j
  induction j with
  | zero => intro c h1 h2; exact ⟨c, rfl, h1, h2⟩
  | succ j ih =>
    intro c h1 h2
    rw [gHi, nI_add]
    by_cases q : w ≤ A (nI (c + 2 ^ j))
    · rw [if_pos q]
      exact ih (c + 2 ^ j) q (by rw [Nat.pow_succ, Nat.mul_comm, Nat.two_mul, ← Nat.add_assoc] at h2; exact h2)
    · rw [if_neg q]
      exact ih c h1 q
theorem seek_at {A : Int32 → Int32} {w : Int32} {r : Nat} (h1 : w ≤ A (nI r)) : ∀ n, r ≤ n → (∀ m, r < m → m ≤ n → ¬ w ≤ A (nI m)) → mSeek A w n = r := by
  intro n
  induction n with
  | zero => intro h _; obtain rfl : r = 0 := by omega
            rfl
  | succ n ih =>
    intro h h2
    by_cases q : r = n + 1
    · subst q; exact mSeek_e h1
    · rw [mSeek, if_neg (h2 (n + 1) (by omega) (Nat.le_refl _))]
      exact ih (by omega) (fun m a b => h2 m a (by omega))
theorem seek_eq {G H : Nat → Int32} {h : Nat → Nat} (hG : ∀ k, k < 64 → h k ≤ 1000 ∧ G k = nI (h k)) (hH : ∀ k, k < 64 → h k ≤ 1000 ∧ H k = nI (h k)) {f n : Nat} (hn : f + n ≤ 64) {w : Nat} (hw1 : 1 ≤ w) (hw2 : w ≤ 64000) (h0 : nI w ≤ gAbove G f n 0) : gHi (gAbove G f n) (nI w) 10 0 = nI (mSeek (mAbove H f n) (nI w) 1000) := by
  have key : ∀ c, c ≤ 2000 → (nI w ≤ gAbove G f n (nI c) ↔ w ≤ nSum h f c n) := by
    intro c hc
    have h1 := nSum_le (f := f) (c := c) (fun k hk => (hG k hk).1) n hn
    rw [gAb_n hG hc n hn, Int32.le_iff_toInt_le, nI_toInt (by omega), nI_toInt (by omega)]
    omega
  have keym : ∀ c, c ≤ 2000 → (nI w ≤ mAbove H f n (nI c) ↔ w ≤ nSum h f c n) := by
    intro c hc
    have h1 := nSum_le (f := f) (c := c) (fun k hk => (hH k hk).1) n hn
    rw [mAb_n hH hc n hn, Int32.le_iff_toInt_le, nI_toInt (by omega), nI_toInt (by omega)]
    omega
  have hz : ∀ c, 1000 ≤ c → nSum h f c n = 0 := fun c hc => nSum_z (fun k hk => (hG k hk).1) hc n hn
  obtain ⟨r, r1, r2, r3⟩ := gHi_P (A := gAbove G f n) (w := nI w) 10 0 h0 (by
    rw [key (0 + 2 ^ 10) (by decide), hz _ (by decide)]
    omega)
  obtain ⟨r', q1, -, q3⟩ := gHi_n (A := gAbove G f n) (w := nI w) 10 0
  have hr : r < 1024 ∨ r ≥ 1024 := Nat.lt_or_ge _ _
  have r1' : gHi (gAbove G f n) (nI w) 10 0 = nI r := r1
  have q1' : gHi (gAbove G f n) (nI w) 10 0 = nI r' := q1
  have q3 : r' < 1024 := by omega
  have r2' : nI w ≤ gAbove G f n (nI r') := by rw [← q1', r1']; exact r2
  have r3' : ¬ nI w ≤ gAbove G f n (nI (r' + 1)) := by
    rw [← nI_1, ← q1', r1', nI_1]; exact r3
  have s1 := (key r' (by omega)).mp r2'
  have s2 : ¬ w ≤ nSum h f (r' + 1) n := fun z => r3' ((key (r' + 1) (by omega)).mpr z)
  have s3 : r' ≤ 1000 := by
    rcases Nat.lt_or_ge 1000 r' with z | z
    · rw [hz r' (by omega)] at s1; omega
    · exact z
  rw [q1', seek_at (r := r') ((keym r' (by omega)).mpr s1) 1000 s3 (fun m a b z => s2 (Nat.le_trans ((keym m (by omega)).mp z) (nSum_mo (by omega) n)))]
