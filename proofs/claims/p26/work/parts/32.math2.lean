/-! the entries as a tree: what an entry says of the columns below it, and what it needs to be right -/
def kid (N e k : Nat) : Nat := if k < shi N (2 * e) then 2 * e else 2 * e + 1
def hv (N : Nat) (R : Nat → RW) : Nat → Nat → Nat → Int32
  | 0, e, _ => (R e).1
  | d + 1, e, k => if slo N e + 1 < shi N e then bMin (hv N R d (kid N e k) k) (R e).1 else (R e).1
def Ok (N : Nat) (R : Nat → RW) : Nat → Nat → Prop
  | 0, _ => True
  | d + 1, e => Ok1 (R e) (hv N R (d + 1) e) (slo N e) (shi N e) ∧ (slo N e + 1 < shi N e → Ok N R d (2 * e) ∧ Ok N R d (2 * e + 1) ∧ (R (2 * e)).2.1 ≤ (R e).2.1 ∧ (R (2 * e + 1)).2.1 ≤ (R e).2.1) ∧ (¬ slo N e + 1 < shi N e → (R e).2.1 = -1)
def sub (e x : Nat) : Prop := ∃ j, x / 2 ^ j = e
theorem sub_r (e : Nat) : sub e e := ⟨0, by simp⟩
theorem sub_0 {e x : Nat} (h : sub (2 * e) x) : sub e x := by
  obtain ⟨j, h⟩ := h
  exact ⟨j + 1, by rw [Nat.pow_succ, ← Nat.div_div_eq_div_mul, h]; omega⟩
theorem sub_1 {e x : Nat} (h : sub (2 * e + 1) x) : sub e x := by
  obtain ⟨j, h⟩ := h
  exact ⟨j + 1, by rw [Nat.pow_succ, ← Nat.div_div_eq_div_mul, h]; omega⟩
theorem sub_le {e x : Nat} (h : sub e x) : e ≤ x := by
  obtain ⟨j, h⟩ := h
  rw [← h]
  exact Nat.div_le_self _ _
theorem sub_x {e x : Nat} (he : 1 ≤ e) (h1 : sub (2 * e) x) (h2 : sub (2 * e + 1) x) : False := by
  obtain ⟨j, h1⟩ := h1
  obtain ⟨i, h2⟩ := h2
  rcases Nat.lt_trichotomy i j with q | q | q
  · have : x / 2 ^ j = x / 2 ^ i / 2 ^ (j - i) := by rw [Nat.div_div_eq_div_mul, ← Nat.pow_add, show i + (j - i) = j by omega]
    rw [h1, h2] at this
    obtain ⟨r, hr⟩ : ∃ r, j - i = r + 1 := ⟨j - i - 1, by omega⟩
    rw [hr, Nat.pow_succ, Nat.mul_comm (2 ^ r) 2, ← Nat.div_div_eq_div_mul] at this
    have h3 := Nat.div_le_self ((2 * e + 1) / 2) (2 ^ r)
    omega
  · subst q; omega
  · have : x / 2 ^ i = x / 2 ^ j / 2 ^ (i - j) := by rw [Nat.div_div_eq_div_mul, ← Nat.pow_add, show j + (i - j) = i by omega]
    rw [h1, h2] at this
    have h3 := Nat.div_le_self (2 * e) (2 ^ (i - j))
    omega
theorem sub_kid {N e k x : Nat} (he : 1 ≤ e) (h : sub (kid N e k) x) : sub e x ∧ x ≠ e := by
  unfold kid at h
  split at h
  · exact ⟨sub_0 h, by have := sub_le h; omega⟩
  · exact ⟨sub_1 h, by have := sub_le h; omega⟩
theorem kid_1 {N e : Nat} (k : Nat) (he : 1 ≤ e) : 1 ≤ kid N e k := by unfold kid; split <;> omega
theorem hv_c {N : Nat} {R R' : Nat → RW} : ∀ (d e : Nat), 1 ≤ e → (∀ x, sub e x → R' x = R x) → ∀ k, hv N R' d e k = hv N R d e k := by
  intro d
  induction d with
  | zero => intro e he h k; rw [hv, hv, h e (sub_r e)]
  | succ d ih =>
    intro e he h k
    rw [hv, hv, h e (sub_r e), ih (kid N e k) (kid_1 k he) (fun x hx => h x (sub_kid he hx).1) k]
theorem Ok_c {N : Nat} {R R' : Nat → RW} : ∀ (d e : Nat), 1 ≤ e → (∀ x, sub e x → R' x = R x) → Ok N R d e → Ok N R' d e := by
  intro d
  induction d with
  | zero => intro e he h _; exact True.intro
  | succ d ih =>
    intro e he h H
    obtain ⟨a1, a2, a3⟩ := H
    refine ⟨?_, fun hp => ?_, fun hp => by rw [h e (sub_r e)]; exact a3 hp⟩
    · rw [h e (sub_r e)]
      exact Ok1_c a1 (fun k _ _ => hv_c (d + 1) e he h k)
    · obtain ⟨b1, b2, b3, b4⟩ := a2 hp
      refine ⟨ih _ (by omega) (fun x hx => h x (sub_0 hx)) b1, ih _ (by omega) (fun x hx => h x (sub_1 hx)) b2, ?_, ?_⟩
      · rw [h e (sub_r e), h _ (sub_0 (sub_r _))]; exact b3
      · rw [h e (sub_r e), h _ (sub_1 (sub_r _))]; exact b4
theorem hv_le {N : Nat} {R : Nat → RW} (d e k : Nat) : hv N R d e k ≤ (R e).1 := by
  cases d with
  | zero => exact Int32.le_refl _
  | succ d =>
    rw [hv]
    split
    · exact bMin_lr _ _
    · exact Int32.le_refl _
/-- pressing an entry -/
theorem hv_p {N : Nat} {R R' : Nat → RW} {d e : Nat} {c : Int32} (he : 1 ≤ e) (h1 : R' e = rPress (R e) c) (h2 : ∀ x, x ≠ e → R' x = R x) (hc : c ≤ (R e).1) (k : Nat) : hv N R' d e k = bMin (hv N R d e k) c := by
  have e1 : (R' e).1 = c := by rw [h1]; rfl
  cases d with
  | zero => rw [hv, hv, e1, bMin_l hc]
  | succ d =>
    rw [hv, hv, e1, hv_c d (kid N e k) (kid_1 k he) (fun x hx => h2 x (sub_kid he hx).2) k]
    split
    · rw [bMin_a, bMin_l hc]
    · rw [bMin_l hc]
theorem Ok_p {N : Nat} {R R' : Nat → RW} {d e : Nat} {c : Int32} (he : 1 ≤ e) (H : Ok N R d e) (h1 : R' e = rPress (R e) c) (h2 : ∀ x, x ≠ e → R' x = R x) (hs : (R e).2.1 < c) (hc : c < (R e).1) (h0 : 0 ≤ c) : Ok N R' d e := by
  cases d with
  | zero => exact True.intro
  | succ d =>
    obtain ⟨a1, a2, a3⟩ := H
    have es : (R' e).2.1 = (R e).2.1 := by rw [h1]; rfl
    refine ⟨?_, fun hp => ?_, fun hp => by rw [es]; exact a3 hp⟩
    · rw [h1]
      exact Ok1_c (Ok1_p a1 hs hc h0) (fun k _ _ => hv_p he h1 h2 (Int32.le_of_lt hc) k)
    · obtain ⟨b1, b2, b3, b4⟩ := a2 hp
      refine ⟨Ok_c d _ (by omega) (fun x hx => h2 x (by have := sub_le hx; omega)) b1, Ok_c d _ (by omega) (fun x hx => h2 x (by have := sub_le hx; omega)) b2, ?_, ?_⟩
      · rw [es, h2 _ (by omega)]; exact b3
      · rw [es, h2 _ (by omega)]; exact b4
/-! the rows after each step -/
theorem row_p_s (B : BK) (e : Nat) (c : Int32) : row (bPress B e c) e = rPress (row B e) c := by
  unfold row bPress rPress
  dsimp only
  rw [pk_us, pk_us]
theorem row_p_n {B : BK} {e x : Nat} {c : Int32} (h : x ≠ e) : row (bPress B e c) x = row B x := by
  unfold row bPress
  dsimp only
  rw [pk_un h, pk_un h]
theorem row_s_s (B : BK) (e : Nat) (v : Int32) : row (bSet B e v) e = (v, (row B e).2.1, (row B e).2.2.1, v) := by
  unfold row bSet
  dsimp only
  rw [pk_us, pk_us]
theorem row_s_n {B : BK} {e x : Nat} {v : Int32} (h : x ≠ e) : row (bSet B e v) x = row B x := by
  unfold row bSet
  dsimp only
  rw [pk_un h, pk_un h]
theorem row_t_s {B : BK} {e : Nat} (he : 1 ≤ e) : row (bTell B e) e = rTell (row B (2 * e)) (row B (2 * e + 1)) := by
  unfold row bTell rTell rLess rMany bLess bMany bTop
  dsimp only
  rw [pk_us, pk_us, pk_us, pk_us, pk_un (show 2 * e ≠ e by omega), pk_un (show 2 * e + 1 ≠ e by omega)]
theorem row_t_n {B : BK} {e x : Nat} (h : x ≠ e) : row (bTell B e) x = row B x := by
  unfold row bTell
  dsimp only
  rw [pk_un h, pk_un h, pk_un h, pk_un h]