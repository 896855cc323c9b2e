/-! naturals behind the words: sums, the greatest, counts -/
theorem nSum_ap (h : Nat → Nat) (f c n : Nat) : ∀ m, nSum h f c (n + m) = nSum h f c n + nSum h (f + n) c m := by
  intro m
  induction m with
  | zero => rfl
  | succ m ih =>
    show nSum h f c (n + m) + (h (f + (n + m)) - c) = nSum h f c n + (nSum h (f + n) c m + (h (f + n + m) - c))
    rw [ih, Nat.add_assoc f n m, Nat.add_assoc]
theorem nSum_c {h g : Nat → Nat} {f c d : Nat} : ∀ {n : Nat}, (∀ k, f ≤ k → k < f + n → h k - c = g k - d) → nSum h f c n = nSum g f d n := by
  intro n
  induction n with
  | zero => intro _; rfl
  | succ n ih => intro q; rw [nSum, nSum, ih (fun k a b => q k a (by omega)), q (f + n) (by omega) (by omega)]
theorem nSum_0 {h : Nat → Nat} {f c : Nat} : ∀ {n : Nat}, (∀ k, f ≤ k → k < f + n → h k - c = 0) → nSum h f c n = 0 := by
  intro n
  induction n with
  | zero => intro _; rfl
  | succ n ih => intro q; rw [nSum, ih (fun k a b => q k a (by omega)), q (f + n) (by omega) (by omega)]
theorem nSum_3 {h a b : Nat → Nat} {f c1 c2 c3 : Nat} : ∀ {n : Nat}, (∀ k, f ≤ k → k < f + n → h k - c1 = (a k - c2) + (b k - c3)) → nSum h f c1 n = nSum a f c2 n + nSum b f c3 n := by
  intro n
  induction n with
  | zero => intro _; rfl
  | succ n ih =>
    intro q
    have q1 := q (f + n) (by omega) (by omega)
    have q2 := ih (fun k a b => q k a (by omega))
    rw [nSum, nSum, nSum, q1, q2]
    omega
theorem nSum_in {h : Nat → Nat} {N f t : Nat} (c : Nat) (hf : f ≤ t) (ht : t < N) : nSum (fun k => if f ≤ k ∧ k ≤ t then h k else 0) 0 c N = nSum h f c (t + 1 - f) := by
  have e1 := nSum_ap (fun k => if f ≤ k ∧ k ≤ t then h k else 0) 0 c f ((t + 1 - f) + (N - (t + 1)))
  have e2 := nSum_ap (fun k => if f ≤ k ∧ k ≤ t then h k else 0) (0 + f) c (t + 1 - f) (N - (t + 1))
  rw [show f + ((t + 1 - f) + (N - (t + 1))) = N by omega] at e1
  rw [e1, e2]
  have z1 : nSum (fun k => if f ≤ k ∧ k ≤ t then h k else 0) 0 c f = 0 := nSum_0 (fun k a b => by rw [if_neg (by omega)]; omega)
  have z2 : nSum (fun k => if f ≤ k ∧ k ≤ t then h k else 0) (0 + f + (t + 1 - f)) c (N - (t + 1)) = 0 := nSum_0 (fun k a b => by rw [if_neg (by omega)]; omega)
  have z3 : nSum (fun k => if f ≤ k ∧ k ≤ t then h k else 0) (0 + f) c (t + 1 - f) = nSum h f c (t + 1 - f) := by
    rw [Nat.zero_add]
    exact nSum_c (fun k a b => by rw [if_pos (by omega)])
  omega
theorem nSum_k {h : Nat → Nat} {f v : Nat} : ∀ {n : Nat}, (∀ k, f ≤ k → k < f + n → h k = v) → nSum h f 0 n = n * v := by
  intro n
  induction n with
  | zero => intro _; rw [Nat.zero_mul]; rfl
  | succ n ih =>
    intro q
    rw [nSum, ih (fun k a b => q k a (by omega)), q (f + n) (by omega) (by omega), Nat.succ_mul]
    rfl
theorem nSum_mh {h g : Nat → Nat} {f c : Nat} : ∀ {n : Nat}, (∀ k, f ≤ k → k < f + n → h k ≤ g k) → nSum h f c n ≤ nSum g f c n := by
  intro n
  induction n with
  | zero => intro _; exact Nat.le_refl _
  | succ n ih =>
    intro q
    have q1 := q (f + n) (by omega) (by omega)
    have q2 := ih (fun k a b => q k a (by omega))
    rw [nSum, nSum]
    omega
theorem nSum_b {h : Nat → Nat} {f c b : Nat} : ∀ {n : Nat}, (∀ k, f ≤ k → k < f + n → h k ≤ b) → nSum h f c n ≤ b * n := by
  intro n
  induction n with
  | zero => intro _; exact Nat.zero_le _
  | succ n ih =>
    intro q
    have q1 := q (f + n) (by omega) (by omega)
    have q2 := ih (fun k a b => q k a (by omega))
    rw [nSum, Nat.mul_succ]
    omega
theorem g_n {w : Nat → Int32} {h : Nat → Nat} {f : Nat} : ∀ {n : Nat}, (∀ k, f ≤ k → k < f + n → w k = nI (h k)) → gSum w f n = nI (nSum h f 0 n) := by
  intro n
  induction n with
  | zero => intro _; rfl
  | succ n ih => intro q; rw [gSum, nSum, ih (fun k a b => q k a (by omega)), q (f + n) (by omega) (by omega), nI_add, Nat.sub_zero]
def nMax (h : Nat → Nat) (f : Nat) : Nat → Nat
  | 0 => 0
  | n + 1 => max (nMax h f n) (h (f + n))
theorem nMax_s {h : Nat → Nat} {f kk : Nat} (q : f ≤ kk) : nMax h f (kk + 1 - f) = max (nMax h f (kk - f)) (h kk) := by
  obtain ⟨j, rfl⟩ : ∃ j, kk = f + j := ⟨kk - f, by omega⟩
  rw [show f + j + 1 - f = j + 1 by omega, show f + j - f = j by omega]
  rfl
theorem nMax_ge {h : Nat → Nat} {f : Nat} : ∀ {n k : Nat}, f ≤ k → k < f + n → h k ≤ nMax h f n := by
  intro n
  induction n with
  | zero => intro k a b; omega
  | succ n ih =>
    intro k a b
    rw [nMax]
    by_cases q : k = f + n
    · subst q; omega
    · have := ih a (show k < f + n by omega)
      omega
theorem nMax_ex {h : Nat → Nat} {f : Nat} : ∀ {n : Nat}, 1 ≤ n → ∃ k, f ≤ k ∧ k < f + n ∧ h k = nMax h f n := by
  intro n
  induction n with
  | zero => intro q; omega
  | succ n ih =>
    intro _
    rw [nMax]
    by_cases q : nMax h f n ≤ h (f + n)
    · exact ⟨f + n, by omega, by omega, by omega⟩
    · have h1 : 1 ≤ n := by
        rcases Nat.eq_zero_or_pos n with z | z
        · subst z
          exact absurd (Nat.zero_le _) q
        · exact z
      obtain ⟨k, a, b, e⟩ := ih h1
      exact ⟨k, a, by omega, by omega⟩
def nCnt (h : Nat → Nat) (m f : Nat) : Nat → Nat
  | 0 => 0
  | n + 1 => nCnt h m f n + (if h (f + n) = m then 1 else 0)
theorem nCnt_le {h : Nat → Nat} {m f : Nat} : ∀ n, nCnt h m f n ≤ n := by
  intro n
  induction n with
  | zero => exact Nat.le_refl _
  | succ n ih => rw [nCnt]; split <;> omega
theorem nCnt_z {h : Nat → Nat} {m f : Nat} : ∀ {n : Nat}, (∀ k, f ≤ k → k < f + n → h k ≠ m) → nCnt h m f n = 0 := by
  intro n
  induction n with
  | zero => intro _; rfl
  | succ n ih => intro q; rw [nCnt, ih (fun k a b => q k a (by omega)), if_neg (q (f + n) (by omega) (by omega))]
theorem nCnt_p {h : Nat → Nat} {m f : Nat} : ∀ {n k : Nat}, f ≤ k → k < f + n → h k = m → 1 ≤ nCnt h m f n := by
  intro n
  induction n with
  | zero => intro k a b; omega
  | succ n ih =>
    intro k a b e
    rw [nCnt]
    by_cases q : k = f + n
    · subst q; rw [if_pos e]; omega
    · have := ih a (show k < f + n by omega) e
      omega
theorem nCnt_g {w : Nat → Int32} {h : Nat → Nat} {m f : Nat} (hm : m < 100000) : ∀ {n : Nat}, (∀ k, f ≤ k → k < f + n → w k = nI (h k) ∧ h k < 100000) → gSum (fun k => if w k = nI m then 1 else 0) f n = nI (nCnt h m f n) := by
  intro n
  induction n with
  | zero => intro _; rfl
  | succ n ih =>
    intro q
    obtain ⟨q1, q2⟩ := q (f + n) (by omega) (by omega)
    rw [gSum, nCnt, ih (fun k a b => q k a (by omega)), ← nI_add]
    congr 1
    by_cases z : h (f + n) = m
    · rw [if_pos z, if_pos (by rw [q1, z])]; rfl
    · rw [if_neg z, if_neg (by rw [q1]; exact fun y => z ((nI_eq (by omega) (by omega)).mp y))]; rfl
/-- the greatest of some, how many are it, and one more than the greatest that is less (0: there is none) -/
def Tl (h : Nat → Nat) (lo n lw mn mo : Nat) : Prop :=
  (∀ k, lo ≤ k → k < lo + n → h k ≤ mo ∧ (h k = mo ∨ h k + 1 ≤ lw)) ∧ lw ≤ mo ∧ mn = nCnt h mo lo n ∧ (n ≠ 0 → ∃ k, lo ≤ k ∧ k < lo + n ∧ h k = mo) ∧ (lw = 0 ∨ ∃ k, lo ≤ k ∧ k < lo + n ∧ h k + 1 = lw) ∧ (n = 0 → mo = 0)
theorem Tl_0 (h : Nat → Nat) (lo : Nat) : Tl h lo 0 0 0 0 := ⟨fun k a b => by omega, Nat.le_refl _, rfl, fun q => absurd rfl q, Or.inl rfl, fun _ => rfl⟩
theorem Tl_un {h : Nat → Nat} {lo n a b c a' b' c' : Nat} (T : Tl h lo n a b c) (S : Tl h lo n a' b' c') (hn : n ≠ 0) : a = a' ∧ b = b' ∧ c = c' := by
  obtain ⟨t1, t2, t3, t4, t5, -⟩ := T
  obtain ⟨s1, s2, s3, s4, s5, -⟩ := S
  obtain ⟨k, i, j, e⟩ := t4 hn
  obtain ⟨k', i', j', e'⟩ := s4 hn
  have z1 := (s1 k i j).1
  have z2 := (t1 k' i' j').1
  have hc : c = c' := by omega
  subst hc
  refine ⟨?_, t3.trans s3.symm, rfl⟩
  rcases t5 with t5 | ⟨x, x1, x2, x3⟩
  · rcases s5 with s5 | ⟨y, y1, y2, y3⟩
    · omega
    · have := t1 y y1 y2
      omega
  · rcases s5 with s5 | ⟨y, y1, y2, y3⟩
    · have := s1 x x1 x2
      omega
    · have := t1 y y1 y2
      have := s1 x x1 x2
      omega
theorem Tl_mn {h : Nat → Nat} {lo n lw mn mo : Nat} (T : Tl h lo n lw mn mo) : (mn = 0 → n = 0) ∧ (n = 0 → mn = 0 ∧ mo = 0 ∧ lw = 0) := by
  obtain ⟨t1, t2, t3, t4, t5, t6⟩ := T
  refine ⟨fun q => ?_, fun q => ?_⟩
  · by_cases z : n = 0
    · exact z
    · obtain ⟨k, i, j, e⟩ := t4 z
      have := nCnt_p i j e
      omega
  · subst q
    refine ⟨t3, t6 rfl, ?_⟩
    rcases t5 with t5 | ⟨x, x1, x2, x3⟩
    · exact t5
    · omega
/-- one more is greater than all -/
theorem Tl_A {h : Nat → Nat} {lo n lw mn mo x : Nat} (T : Tl h lo n lw mn mo) (e : h (lo + n) = x) (hx : mo < x) (hm : 0 < mn) : Tl h lo (n + 1) (mo + 1) 1 x := by
  obtain ⟨t1, t2, t3, t4, t5, t6⟩ := T
  have hn : n ≠ 0 := fun q => by subst q; rw [t3] at hm; exact absurd (show 0 < 0 from hm) (Nat.lt_irrefl 0)
  obtain ⟨k0, i0, j0, e0⟩ := t4 hn
  refine ⟨fun k a b => ?_, by omega, ?_, fun _ => ⟨lo + n, by omega, by omega, e⟩, Or.inr ⟨k0, i0, by omega, by omega⟩, fun q => by omega⟩
  · by_cases q : k = lo + n
    · subst q; omega
    · have := t1 k a (by omega)
      omega
  · rw [nCnt, if_pos e, nCnt_z (fun k a b => by have := t1 k a b; omega)]
theorem Tl_A0 {h : Nat → Nat} {lo n lw mn mo x : Nat} (T : Tl h lo n lw mn mo) (e : h (lo + n) = x) (hm : mn = 0) : Tl h lo (n + 1) lw 1 x := by
  have hn := (Tl_mn T).1 hm
  obtain ⟨z1, z2, z3⟩ := (Tl_mn T).2 hn
  subst hn
  refine ⟨fun k a b => ?_, by omega, ?_, fun _ => ⟨lo, by omega, by omega, e⟩, Or.inl z3, fun q => by omega⟩
  · have q : k = lo := by omega
    subst q
    have e' : h k = x := e
    omega
  · rw [nCnt, if_pos e]; rfl
theorem Tl_C {h : Nat → Nat} {lo n lw mn mo x : Nat} (T : Tl h lo n lw mn mo) (e : h (lo + n) = x) (hx : x = mo) (hn : n ≠ 0) : Tl h lo (n + 1) lw (mn + 1) mo := by
  obtain ⟨t1, t2, t3, t4, t5, t6⟩ := T
  refine ⟨fun k a b => ?_, t2, ?_, fun _ => ⟨lo + n, by omega, by omega, by omega⟩, t5.imp id (fun ⟨k, i, j, w⟩ => ⟨k, i, by omega, w⟩), fun q => by omega⟩
  · by_cases q : k = lo + n
    · subst q; omega
    · exact t1 k a (by omega)
  · rw [nCnt, if_pos (by omega), t3]
theorem Tl_D {h : Nat → Nat} {lo n lw mn mo x : Nat} (T : Tl h lo n lw mn mo) (e : h (lo + n) = x) (hx : x < mo) (hl : lw ≤ x) (hn : n ≠ 0) : Tl h lo (n + 1) (x + 1) mn mo := by
  obtain ⟨t1, t2, t3, t4, t5, t6⟩ := T
  obtain ⟨k0, i0, j0, e0⟩ := t4 hn
  refine ⟨fun k a b => ?_, by omega, ?_, fun _ => ⟨k0, i0, by omega, e0⟩, Or.inr ⟨lo + n, by omega, by omega, by omega⟩, fun q => by omega⟩
  · by_cases q : k = lo + n
    · subst q; omega
    · have := t1 k a (by omega)
      omega
  · rw [nCnt, if_neg (by omega), t3, Nat.add_zero]
theorem Tl_E {h : Nat → Nat} {lo n lw mn mo x : Nat} (T : Tl h lo n lw mn mo) (e : h (lo + n) = x) (hx : x < mo) (hl : x < lw) (hn : n ≠ 0) : Tl h lo (n + 1) lw mn mo := by
  obtain ⟨t1, t2, t3, t4, t5, t6⟩ := T
  obtain ⟨k0, i0, j0, e0⟩ := t4 hn
  refine ⟨fun k a b => ?_, t2, ?_, fun _ => ⟨k0, i0, by omega, e0⟩, t5.imp id (fun ⟨k, i, j, w⟩ => ⟨k, i, by omega, w⟩), fun q => by omega⟩
  · by_cases q : k = lo + n
    · subst q; omega
    · have := t1 k a (by omega)
      omega
  · rw [nCnt, if_neg (by omega), t3, Nat.add_zero]
