/-! the mathematics of the book: what an entry's four numbers say of the heights below it -/
theorem i_le1 {x y : Int32} : x ≤ y ↔ x.toInt ≤ y.toInt := Int32.le_iff_toInt_le
theorem i_lt' {x y : Int32} : x < y ↔ x.toInt < y.toInt := Int32.lt_iff_toInt_lt
theorem i_eq {x y : Int32} : x = y ↔ x.toInt = y.toInt := Int32.toInt_inj.symm
theorem bMin_i (x y : Int32) : (bMin x y).toInt = min x.toInt y.toInt := by
  unfold bMin
  split
  · rename_i h; rw [i_lt'] at h; omega
  · rename_i h; rw [i_lt'] at h; omega
theorem bMax_i (x y : Int32) : (bMax x y).toInt = max x.toInt y.toInt := by
  unfold bMax
  split
  · rename_i h; rw [i_lt'] at h; omega
  · rename_i h; rw [i_lt'] at h; omega
theorem bMin_l {x y : Int32} (h : y ≤ x) : bMin x y = y := by rw [Int32.le_iff_toInt_le] at h; rw [← Int32.toInt_inj, bMin_i]; omega
theorem bMin_r {x y : Int32} (h : x ≤ y) : bMin x y = x := by rw [Int32.le_iff_toInt_le] at h; rw [← Int32.toInt_inj, bMin_i]; omega
theorem bMin_ll (x y : Int32) : bMin x y ≤ x := by rw [Int32.le_iff_toInt_le, bMin_i]; omega
theorem bMin_lr (x y : Int32) : bMin x y ≤ y := by rw [Int32.le_iff_toInt_le, bMin_i]; omega
theorem bMin_a (x y z : Int32) : bMin (bMin x y) z = bMin x (bMin y z) := by rw [← Int32.toInt_inj, bMin_i, bMin_i, bMin_i, bMin_i]; omega
/-- sums -/
theorem gSum_c {w v : Nat → Int32} {f : Nat} : ∀ {n : Nat}, (∀ k, f ≤ k → k < f + n → w k = v k) → gSum w f n = gSum v f n := by
  intro n
  induction n with
  | zero => intro _; rfl
  | succ n ih =>
    intro h
    rw [gSum, gSum, ih (fun k h1 h2 => h k h1 (by omega)), h (f + n) (by omega) (by omega)]
theorem gSum_ap (w : Nat → Int32) (f n : Nat) : ∀ m, gSum w f (n + m) = gSum w f n + gSum w (f + n) m := by
  intro m
  induction m with
  | zero => rw [gSum]; show gSum w f n = gSum w f n + 0; grind
  | succ m ih =>
    show gSum w f (n + m) + w (f + (n + m)) = gSum w f n + (gSum w (f + n) m + w (f + n + m))
    rw [ih, Nat.add_assoc]
    grind
theorem gSum_sp (w : Nat → Int32) {lo mid hi : Nat} (h1 : lo ≤ mid) (h2 : mid ≤ hi) : gSum w lo (hi - lo) = gSum w lo (mid - lo) + gSum w mid (hi - mid) := by
  have := gSum_ap w lo (mid - lo) (hi - mid)
  rw [show mid - lo + (hi - mid) = hi - lo by omega, show lo + (mid - lo) = mid by omega] at this
  exact this
theorem gSum_z {f : Nat} {w : Nat → Int32} : ∀ {n : Nat}, (∀ k, f ≤ k → k < f + n → w k = 0) → gSum w f n = 0 := by
  intro n
  induction n with
  | zero => intro _; rfl
  | succ n ih =>
    intro h
    rw [gSum, ih (fun k h1 h2 => h k h1 (by omega)), h (f + n) (by omega) (by omega)]
    rfl
theorem gSum_k {f : Nat} {w : Nat → Int32} {v : Int32} : ∀ {n : Nat}, (∀ k, f ≤ k → k < f + n → w k = v) → gSum w f n = nI n * v := by
  intro n
  induction n with
  | zero => intro _; show (0 : Int32) = 0 * v; grind
  | succ n ih =>
    intro h
    rw [gSum, ih (fun k h1 h2 => h k h1 (by omega)), h (f + n) (by omega) (by omega), show nI (n + 1) = nI n + 1 from (nI_1 _).symm]
    grind
/-- pressed sums -/
theorem gSum_p {w : Nat → Int32} {g c : Int32} {f : Nat} : ∀ {n : Nat}, (∀ k, f ≤ k → k < f + n → bMin (w k) c = w k - (g - c) * (if w k = g then 1 else 0)) → gSum (fun k => bMin (w k) c) f n = gSum w f n - (g - c) * gSum (fun k => if w k = g then 1 else 0) f n := by
  intro n
  induction n with
  | zero => intro _; show (0 : Int32) = 0 - (g - c) * 0; grind
  | succ n ih =>
    intro h
    rw [gSum, gSum, gSum, ih (fun k h1 h2 => h k h1 (by omega)), h (f + n) (by omega) (by omega)]
    grind
/-- greatest, second, many, sum of an entry; of the heights h of the columns lo .. hi - 1 -/
abbrev RW : Type := Int32 × Int32 × Int32 × Int32
def row (B : BK) (x : Nat) : RW := (B.1 x, B.2.1 x, B.2.2.1 x, B.2.2.2.1 x)
def Ok1 (r : RW) (h : Nat → Int32) (lo hi : Nat) : Prop :=
  0 ≤ r.1 ∧ -1 ≤ r.2.1 ∧ r.2.1 < r.1 ∧ (∀ k, lo ≤ k → k < hi → h k = r.1 ∨ h k ≤ r.2.1) ∧ r.2.2.1 = gSum (fun k => if h k = r.1 then 1 else 0) lo (hi - lo) ∧ r.2.2.2 = gSum h lo (hi - lo) ∧ (∃ k, lo ≤ k ∧ k < hi ∧ h k = r.1) ∧ (r.2.1 = -1 ∨ ∃ k, lo ≤ k ∧ k < hi ∧ h k = r.2.1)
theorem Ok1_c {r : RW} {h h' : Nat → Int32} {lo hi : Nat} (H : Ok1 r h lo hi) (e : ∀ k, lo ≤ k → k < hi → h' k = h k) : Ok1 r h' lo hi := by
  obtain ⟨a1, a2, a3, a4, a5, a6, ⟨k7, i7, j7, e7⟩, a8⟩ := H
  refine ⟨a1, a2, a3, fun k h1 h2 => by rw [e k h1 h2]; exact a4 k h1 h2, ?_, ?_, ⟨k7, i7, j7, (e k7 i7 j7).trans e7⟩, a8.imp id (fun ⟨k, i, j, q⟩ => ⟨k, i, j, (e k i j).trans q⟩)⟩
  · rw [a5]
    refine gSum_c (fun k h1 h2 => ?_)
    rw [e k h1 (by omega)]
  · rw [a6]
    exact gSum_c (fun k h1 h2 => (e k h1 (by omega)).symm)
def rPress (r : RW) (c : Int32) : RW := (c, r.2.1, r.2.2.1, r.2.2.2 - (r.1 - c) * r.2.2.1)
theorem Ok1_p {r : RW} {h : Nat → Int32} {lo hi : Nat} {c : Int32} (H : Ok1 r h lo hi) (h1 : r.2.1 < c) (h2 : c < r.1) (h0 : 0 ≤ c) : Ok1 (rPress r c) (fun k => bMin (h k) c) lo hi := by
  obtain ⟨a1, a2, a3, a4, a5, a6, ⟨k7, i7, j7, e7⟩, a8⟩ := H
  rw [i_lt'] at h1 h2
  have key : ∀ k, lo ≤ k → k < hi → (h k = r.1 → bMin (h k) c = c) ∧ (¬ h k = r.1 → bMin (h k) c = h k ∧ (h k).toInt < c.toInt) := by
    intro k q1 q2
    refine ⟨fun e => bMin_l (by rw [e, Int32.le_iff_toInt_le]; omega), fun e => ?_⟩
    rcases a4 k q1 q2 with q | q
    · exact absurd q e
    · rw [Int32.le_iff_toInt_le] at q
      exact ⟨bMin_r (by rw [Int32.le_iff_toInt_le]; omega), by omega⟩
  refine ⟨h0, a2, by rw [i_lt']; exact h1, fun k q1 q2 => ?_, ?_, ?_, ⟨k7, i7, j7, (key k7 i7 j7).1 e7⟩, a8.imp id (fun ⟨k, i, j, q⟩ => ⟨k, i, j, ?_⟩)⟩
  · by_cases e : h k = r.1
    · exact Or.inl ((key k q1 q2).1 e)
    · right
      show bMin (h k) c ≤ r.2.1
      rw [((key k q1 q2).2 e).1]
      rcases a4 k q1 q2 with q | q
      · exact absurd q e
      · exact q
  · show r.2.2.1 = _
    rw [a5]
    refine gSum_c (fun k q1 q2 => ?_)
    show (if h k = r.1 then (1 : Int32) else 0) = (if bMin (h k) c = c then 1 else 0)
    by_cases e : h k = r.1
    · rw [if_pos e, if_pos ((key k q1 (by omega)).1 e)]
    · obtain ⟨q3, q4⟩ := (key k q1 (by omega)).2 e
      rw [if_neg e, if_neg (by rw [q3, ← Int32.toInt_inj]; omega)]
  · show r.2.2.2 - (r.1 - c) * r.2.2.1 = _
    rw [a5, a6]
    refine (gSum_p (fun k q1 q2 => ?_)).symm
    by_cases e : h k = r.1
    · rw [(key k q1 (by omega)).1 e, if_pos e, e]; grind
    · rw [((key k q1 (by omega)).2 e).1, if_neg e]; grind
  · show bMin (h k) c = r.2.1
    rw [q]
    exact bMin_r (by rw [Int32.le_iff_toInt_le]; omega)
def rLess (r : RW) (t : Int32) : Int32 := if t ≤ r.1 then r.2.1 else r.1
def rMany (r : RW) (t : Int32) : Int32 := if r.1 = t then r.2.2.1 else 0
def rTell (p q : RW) : RW := (bMax p.1 q.1, bMax (rLess p (bMax p.1 q.1)) (rLess q (bMax p.1 q.1)), rMany p (bMax p.1 q.1) + rMany q (bMax p.1 q.1), p.2.2.2 + q.2.2.2)
theorem rLess_s {r : RW} {h : Nat → Int32} {lo hi : Nat} {t : Int32} (H : Ok1 r h lo hi) (ht : r.1 ≤ t) : -1 ≤ rLess r t ∧ rLess r t < t ∧ r.2.1 ≤ rLess r t ∧ (∀ k, lo ≤ k → k < hi → h k = t ∨ h k ≤ rLess r t) ∧ rMany r t = gSum (fun k => if h k = t then 1 else 0) lo (hi - lo) ∧ (rLess r t = -1 ∨ ∃ k, lo ≤ k ∧ k < hi ∧ h k = rLess r t) := by
  obtain ⟨a1, a2, a3, a4, a5, a6, a7, a8⟩ := H
  rw [Int32.le_iff_toInt_le] at ht a1 a2
  rw [i_lt'] at a3
  have e0 : (-1 : Int32).toInt = -1 := rfl
  have e1 : (0 : Int32).toInt = 0 := rfl
  by_cases q : r.1 = t
  · subst q
    unfold rLess rMany
    rw [if_pos (Int32.le_refl _), if_pos rfl]
    exact ⟨by rw [Int32.le_iff_toInt_le]; exact a2, by rw [i_lt']; exact a3, Int32.le_refl _, a4, a5, a8⟩
  · have q2 : ¬ r.1.toInt = t.toInt := fun z => q (Int32.toInt_inj.mp z)
    unfold rLess rMany
    rw [if_neg (by rw [Int32.le_iff_toInt_le]; omega), if_neg q]
    have key : ∀ k, lo ≤ k → k < hi → h k ≤ r.1 := by
      intro k h1 h2
      rcases a4 k h1 h2 with z | z
      · rw [z]; exact Int32.le_refl _
      · rw [Int32.le_iff_toInt_le] at z ⊢; omega
    refine ⟨by rw [Int32.le_iff_toInt_le]; omega, by rw [i_lt']; omega, by rw [Int32.le_iff_toInt_le]; omega, fun k h1 h2 => Or.inr (key k h1 h2), ?_, Or.inr a7⟩
    refine (gSum_z (fun k h1 h2 => if_neg ?_)).symm
    intro z
    have := key k h1 (by omega)
    rw [z, Int32.le_iff_toInt_le] at this
    omega
theorem Ok1_t {p q : RW} {h : Nat → Int32} {lo mid hi : Nat} (P : Ok1 p h lo mid) (Q : Ok1 q h mid hi) (h1 : lo ≤ mid) (h2 : mid ≤ hi) : Ok1 (rTell p q) h lo hi ∧ p.2.1 ≤ (rTell p q).2.1 ∧ q.2.1 ≤ (rTell p q).2.1 := by
  have e : (bMax p.1 q.1).toInt = max p.1.toInt q.1.toInt := bMax_i _ _
  obtain ⟨b1, b2, b3, b4, b5, b6⟩ := rLess_s P (t := bMax p.1 q.1) (by rw [Int32.le_iff_toInt_le, e]; omega)
  obtain ⟨c1, c2, c3, c4, c5, c6⟩ := rLess_s Q (t := bMax p.1 q.1) (by rw [Int32.le_iff_toInt_le, e]; omega)
  have a1 := P.1
  have e0 : (-1 : Int32).toInt = -1 := rfl
  have e1 : (0 : Int32).toInt = 0 := rfl
  rw [Int32.le_iff_toInt_le] at b1 b3 c1 c3 a1
  rw [i_lt'] at b2 c2
  have e2 : (rTell p q).2.1.toInt = max (rLess p (bMax p.1 q.1)).toInt (rLess q (bMax p.1 q.1)).toInt := bMax_i _ _
  have e3 : (rTell p q).1 = bMax p.1 q.1 := rfl
  refine ⟨⟨by rw [e3, Int32.le_iff_toInt_le]; omega, by rw [Int32.le_iff_toInt_le]; omega, by rw [e3, i_lt']; omega, ?_, ?_, ?_, ?_, ?_⟩, by rw [Int32.le_iff_toInt_le]; omega, by rw [Int32.le_iff_toInt_le]; omega⟩
  · intro k q1 q2
    rw [e3]
    rcases Nat.lt_or_ge k mid with z | z
    · rcases b4 k q1 z with y | y
      · exact Or.inl y
      · right; rw [Int32.le_iff_toInt_le] at y ⊢; omega
    · rcases c4 k z q2 with y | y
      · exact Or.inl y
      · right; rw [Int32.le_iff_toInt_le] at y ⊢; omega
  · show rMany p (bMax p.1 q.1) + rMany q (bMax p.1 q.1) = _
    rw [b5, c5]
    exact (gSum_sp _ h1 h2).symm
  · show p.2.2.2 + q.2.2.2 = _
    rw [P.2.2.2.2.2.1, Q.2.2.2.2.2.1]
    exact (gSum_sp _ h1 h2).symm
  · rw [e3]
    by_cases z : q.1.toInt ≤ p.1.toInt
    · obtain ⟨k, i, j, w⟩ := P.2.2.2.2.2.2.1
      exact ⟨k, i, by omega, by rw [w, ← Int32.toInt_inj, e]; omega⟩
    · obtain ⟨k, i, j, w⟩ := Q.2.2.2.2.2.2.1
      exact ⟨k, by omega, j, by rw [w, ← Int32.toInt_inj, e]; omega⟩
  · by_cases z : (rLess q (bMax p.1 q.1)).toInt ≤ (rLess p (bMax p.1 q.1)).toInt
    · have w : (rTell p q).2.1 = rLess p (bMax p.1 q.1) := by rw [← Int32.toInt_inj, e2]; omega
      rw [w]
      exact b6.imp id (fun ⟨k, i, j, w⟩ => ⟨k, i, by omega, w⟩)
    · have w : (rTell p q).2.1 = rLess q (bMax p.1 q.1) := by rw [← Int32.toInt_inj, e2]; omega
      rw [w]
      exact c6.imp id (fun ⟨k, i, j, w⟩ => ⟨k, by omega, j, w⟩)
/-- the greatest of some, from -1 -/
def gTop (w : Nat → Int32) (f : Nat) : Nat → Int32
  | 0 => -1
  | n + 1 => bMax (gTop w f n) (w (f + n))
theorem bMax_l (x y : Int32) : x ≤ bMax x y := by rw [Int32.le_iff_toInt_le, bMax_i]; omega
theorem bMax_r (x y : Int32) : y ≤ bMax x y := by rw [Int32.le_iff_toInt_le, bMax_i]; omega
theorem bMax_le {x y z : Int32} (h1 : x ≤ z) (h2 : y ≤ z) : bMax x y ≤ z := by rw [Int32.le_iff_toInt_le] at *; rw [bMax_i]; omega
theorem gTop_ge {w : Nat → Int32} {f : Nat} : ∀ n, -1 ≤ gTop w f n := by
  intro n
  induction n with
  | zero => exact Int32.le_refl _
  | succ n ih => exact Int32.le_trans ih (bMax_l _ _)
theorem gTop_le {w : Nat → Int32} {f : Nat} {g : Int32} (hg : -1 ≤ g) : ∀ {n : Nat}, (∀ k, f ≤ k → k < f + n → w k ≤ g) → gTop w f n ≤ g := by
  intro n
  induction n with
  | zero => intro _; exact hg
  | succ n ih => intro h; exact bMax_le (ih (fun k h1 h2 => h k h1 (by omega))) (h _ (by omega) (by omega))
theorem gTop_mem {w : Nat → Int32} {f : Nat} : ∀ {n k : Nat}, f ≤ k → k < f + n → w k ≤ gTop w f n := by
  intro n
  induction n with
  | zero => intro k h1 h2; omega
  | succ n ih =>
    intro k h1 h2
    by_cases q : k = f + n
    · subst q; exact bMax_r _ _
    · exact Int32.le_trans (ih h1 (by omega)) (bMax_l _ _)
theorem gTop_eq {w : Nat → Int32} {f n : Nat} {g : Int32} (hg : -1 ≤ g) (h1 : ∀ k, f ≤ k → k < f + n → w k ≤ g) (h2 : ∃ k, f ≤ k ∧ k < f + n ∧ w k = g) : gTop w f n = g := by
  obtain ⟨k, i, j, e⟩ := h2
  exact Int32.le_antisymm (gTop_le hg h1) (by rw [← e]; exact gTop_mem i j)
theorem gTop_c {w v : Nat → Int32} {f : Nat} : ∀ {n : Nat}, (∀ k, f ≤ k → k < f + n → w k = v k) → gTop w f n = gTop v f n := by
  intro n
  induction n with
  | zero => intro _; rfl
  | succ n ih =>
    intro h
    rw [gTop, gTop, ih (fun k h1 h2 => h k h1 (by omega)), h (f + n) (by omega) (by omega)]
theorem gTop_z {f : Nat} {w : Nat → Int32} : ∀ {n : Nat}, (∀ k, f ≤ k → k < f + n → w k = -1) → gTop w f n = -1 := by
  intro n
  induction n with
  | zero => intro _; rfl
  | succ n ih =>
    intro h
    rw [gTop, ih (fun k h1 h2 => h k h1 (by omega)), h (f + n) (by omega) (by omega)]
    rfl
theorem bMax_as (x y z : Int32) : bMax (bMax x y) z = bMax x (bMax y z) := by rw [← Int32.toInt_inj, bMax_i, bMax_i, bMax_i, bMax_i]; omega
theorem gTop_ap (w : Nat → Int32) (f n : Nat) : ∀ m, gTop w f (n + m) = bMax (gTop w f n) (gTop w (f + n) m) := by
  intro m
  induction m with
  | zero =>
    show gTop w f n = bMax (gTop w f n) (-1)
    exact Int32.le_antisymm (bMax_l _ _) (bMax_le (Int32.le_refl _) (gTop_ge n))
  | succ m ih =>
    show bMax (gTop w f (n + m)) (w (f + (n + m))) = bMax (gTop w f n) (bMax (gTop w (f + n) m) (w (f + n + m)))
    rw [ih, Nat.add_assoc, bMax_as]
theorem gTop_sp (w : Nat → Int32) {lo mid hi : Nat} (h1 : lo ≤ mid) (h2 : mid ≤ hi) : gTop w lo (hi - lo) = bMax (gTop w lo (mid - lo)) (gTop w mid (hi - mid)) := by
  have := gTop_ap w lo (mid - lo) (hi - mid)
  rw [show mid - lo + (hi - mid) = hi - lo by omega, show lo + (mid - lo) = mid by omega] at this
  exact this
