/-! the class's own state, and what a call is refused for -/
def ppW (q h a0 a1 a2 a3 a4 a5 g b0 b1 : Nat) (cI : ClassId) (fi la : Nat → Int32) (B : BK) (G : GK) (pr : Int32) : va_W :=
  [(q, .inr (2, [.ref h, .ref g, .int pr])), (h, .inr (0, [.ref a0, .ref a1, .ref a2, .ref a3, .ref a4, .ref a5, .int B.2.2.2.2.1, .int B.2.2.2.2.2.1, .int B.2.2.2.2.2.2])), (a0, .inl (cI, 128, .inl fi)), (a1, .inl (cI, 128, .inl la)), (a2, .inl (cI, 128, .inl B.1)), (a3, .inl (cI, 128, .inl B.2.1)), (a4, .inl (cI, 128, .inl B.2.2.1)), (a5, .inl (cI, 128, .inl B.2.2.2.1)), (g, .inr (1, [.ref b0, .ref b1, .int G.2.2.1, .int G.2.2.2])), (b0, .inl (cI, 64, .inl G.1)), (b1, .inl (cI, 64, .inl G.2.1))]
abbrev xIAE : String := "java/lang/IllegalArgumentException"
abbrev xIOO : String := "java/lang/IndexOutOfBoundsException"
abbrev xISE : String := "java/lang/IllegalStateException"
abbrev xNSE : String := "java/util/NoSuchElementException"
abbrev bCol (cnt x : Int32) : Prop := x < 0 ∨ ¬ x < cnt
abbrev bRng (v lo hi : Int32) : Prop := v < lo ∨ ¬ v ≤ hi
def cLay (n v : Int32) : Int32 := if bRng n 1 64 ∨ bRng v 0 1000 then 1 else 0
def cCol (cnt x : Int32) : Int32 := if bCol cnt x then 1 else 0
def cPile (cnt : Int32) (hs : Nat → Int32) (x w : Int32) : Int32 := if bCol cnt x then 1 else if bRng w 1 1000 then 2 else if ¬ hs x.toNatClampNeg + w ≤ 1000 then 3 else 0
def cSpan (cnt x y : Int32) : Int32 := if bCol cnt x ∨ bCol cnt y then 1 else if y < x then 2 else 0
def cLow (cnt x y c lo hi : Int32) : Int32 := if bCol cnt x ∨ bCol cnt y then 1 else if y < x ∨ bRng c lo hi then 2 else 0
def cFor (cnt : Int32) (hs : Nat → Int32) (x y w : Int32) : Int32 := if bCol cnt x ∨ bCol cnt y then 1 else if y < x ∨ bRng w 1 64000 then 2 else if gAbove hs x.toNatClampNeg (y.toNatClampNeg + 1 - x.toNatClampNeg) 0 < w then 3 else 0
def cOver (cnt : Int32) (cs : Nat → Int32) (x : Int32) : Int32 := if bCol cnt x then 1 else if cs x.toNatClampNeg = -1 then 2 else 0
def cEnt (la : Nat → Int32) (x : Int32) : Int32 := if bHas la x then 0 else 1
def xnA (c : Int32) (Ex : String) : Prop := c = 1 ∧ Ex = xIAE
def xn1 (c : Int32) (Ex : String) : Prop := c = 1 ∧ Ex = xIOO
def xn2 (c : Int32) (Ex : String) : Prop := (c = 1 ∧ Ex = xIOO) ∨ (c = 2 ∧ Ex = xIAE)
def xn3 (c : Int32) (Ex : String) : Prop := (c = 1 ∧ Ex = xIOO) ∨ (c = 2 ∧ Ex = xIAE) ∨ (c = 3 ∧ Ex = xISE)
def xnF (c : Int32) (Ex : String) : Prop := (c = 1 ∧ Ex = xIOO) ∨ (c = 2 ∧ Ex = xIAE) ∨ (c = 3 ∧ Ex = xNSE)
def xnO (c : Int32) (Ex : String) : Prop := (c = 1 ∧ Ex = xIOO) ∨ (c = 2 ∧ Ex = xNSE)
abbrev xSp (cnt x y : Int32) (Ex : String) : Prop := (Ex = xIOO ∧ (bCol cnt x ∨ bCol cnt y)) ∨ (Ex = xIAE ∧ ¬ (bCol cnt x ∨ bCol cnt y) ∧ y < x)
abbrev nSp (cnt x y : Int32) : Prop := ¬ (bCol cnt x ∨ bCol cnt y) ∧ ¬ y < x
theorem xl_layA {n v : Int32} {Ex : String} (h : Ex = xIAE ∧ bRng n 1 64) : xnA (cLay n v) Ex := ⟨by rw [cLay, if_pos (Or.inl h.2)], h.1⟩
theorem xl_layB {n v : Int32} {Ex : String} (h : Ex = xIAE ∧ bRng v 0 1000) : xnA (cLay n v) Ex := ⟨by rw [cLay, if_pos (Or.inr h.2)], h.1⟩
theorem cl_lay {n v : Int32} (h1 : ¬ bRng n 1 64) (h2 : ¬ bRng v 0 1000) : cLay n v = 0 := by rw [cLay, if_neg (fun h => h.elim h1 h2)]
theorem xl_col {cnt x : Int32} {Ex : String} (h : Ex = xIOO ∧ bCol cnt x) : xn1 (cCol cnt x) Ex := ⟨by rw [cCol, if_pos h.2], h.1⟩
theorem cl_col {cnt x : Int32} (h : ¬ bCol cnt x) : cCol cnt x = 0 := by rw [cCol, if_neg h]
theorem xl_pile1 {cnt x w : Int32} {hs : Nat → Int32} {Ex : String} (h : Ex = xIOO ∧ bCol cnt x) : xn3 (cPile cnt hs x w) Ex := Or.inl ⟨by rw [cPile, if_pos h.2], h.1⟩
theorem xl_pile2 {cnt x w : Int32} {hs : Nat → Int32} {Ex : String} (h0 : ¬ bCol cnt x) (h : Ex = xIAE ∧ bRng w 1 1000) : xn3 (cPile cnt hs x w) Ex := Or.inr (Or.inl ⟨by rw [cPile, if_neg h0, if_pos h.2], h.1⟩)
theorem xl_pile3 {cnt w : Int32} {hs : Nat → Int32} {k : Nat} (hk : k < 64) (h0 : ¬ bCol cnt (nI k)) (h1 : ¬ bRng w 1 1000) (h : ¬ hs k + w ≤ 1000) : xn3 (cPile cnt hs (nI k) w) xISE := Or.inr (Or.inr ⟨by rw [cPile, if_neg h0, if_neg h1, nI_clamp (by omega), if_pos h], rfl⟩)
theorem cl_pile {cnt w : Int32} {hs : Nat → Int32} {k : Nat} (hk : k < 64) (h0 : ¬ bCol cnt (nI k)) (h1 : ¬ bRng w 1 1000) (h : hs k + w ≤ 1000) : cPile cnt hs (nI k) w = 0 := by rw [cPile, if_neg h0, if_neg h1, nI_clamp (by omega), if_neg (fun q => q h)]
theorem xl_span {cnt x y : Int32} {Ex : String} (h : xSp cnt x y Ex) : xn2 (cSpan cnt x y) Ex := by
  rcases h with ⟨h1, h2⟩ | ⟨h1, h2, h3⟩
  · exact Or.inl ⟨by rw [cSpan, if_pos h2], h1⟩
  · exact Or.inr ⟨by rw [cSpan, if_neg h2, if_pos h3], h1⟩
theorem cl_span {cnt x y : Int32} (h : nSp cnt x y) : cSpan cnt x y = 0 := by rw [cSpan, if_neg h.1, if_neg h.2]
theorem xl_low1 {cnt x y c lo hi : Int32} {Ex : String} (h : xSp cnt x y Ex) : xn2 (cLow cnt x y c lo hi) Ex := by
  rcases h with ⟨h1, h2⟩ | ⟨h1, h2, h3⟩
  · exact Or.inl ⟨by rw [cLow, if_pos h2], h1⟩
  · exact Or.inr ⟨by rw [cLow, if_neg h2, if_pos (Or.inl h3)], h1⟩
theorem xl_low2 {cnt x y c lo hi : Int32} {Ex : String} (h0 : nSp cnt x y) (h : Ex = xIAE ∧ bRng c lo hi) : xn2 (cLow cnt x y c lo hi) Ex := Or.inr ⟨by rw [cLow, if_neg h0.1, if_pos (Or.inr h.2)], h.1⟩
theorem cl_low {cnt x y c lo hi : Int32} (h0 : nSp cnt x y) (h : ¬ bRng c lo hi) : cLow cnt x y c lo hi = 0 := by rw [cLow, if_neg h0.1, if_neg (fun q => q.elim h0.2 h)]
theorem xl_for1 {cnt x y w : Int32} {hs : Nat → Int32} {Ex : String} (h : xSp cnt x y Ex) : xnF (cFor cnt hs x y w) Ex := by
  rcases h with ⟨h1, h2⟩ | ⟨h1, h2, h3⟩
  · exact Or.inl ⟨by rw [cFor, if_pos h2], h1⟩
  · exact Or.inr (Or.inl ⟨by rw [cFor, if_neg h2, if_pos (Or.inl h3)], h1⟩)
theorem xl_for2 {cnt x y w : Int32} {hs : Nat → Int32} {Ex : String} (h0 : nSp cnt x y) (h : Ex = xIAE ∧ bRng w 1 64000) : xnF (cFor cnt hs x y w) Ex := Or.inr (Or.inl ⟨by rw [cFor, if_neg h0.1, if_pos (Or.inr h.2)], h.1⟩)
theorem xl_for3 {cnt w : Int32} {hs : Nat → Int32} {f t : Nat} (hf : f ≤ t) (ht : t < 64) (h0 : nSp cnt (nI f) (nI t)) (h1 : ¬ bRng w 1 64000) (h : gAbove hs f (t + 1 - f) 0 < w) : xnF (cFor cnt hs (nI f) (nI t) w) xNSE := Or.inr (Or.inr ⟨by rw [cFor, if_neg h0.1, if_neg (fun q => q.elim h0.2 h1), nI_clamp (by omega), nI_clamp (by omega), if_pos h], rfl⟩)
theorem cl_for {cnt w : Int32} {hs : Nat → Int32} {f t : Nat} (hf : f ≤ t) (ht : t < 64) (h0 : nSp cnt (nI f) (nI t)) (h1 : ¬ bRng w 1 64000) (h : ¬ gAbove hs f (t + 1 - f) 0 < w) : cFor cnt hs (nI f) (nI t) w = 0 := by rw [cFor, if_neg h0.1, if_neg (fun q => q.elim h0.2 h1), nI_clamp (by omega), nI_clamp (by omega), if_neg h]
theorem xl_over1 {cnt x : Int32} {cs : Nat → Int32} {Ex : String} (h : Ex = xIOO ∧ bCol cnt x) : xnO (cOver cnt cs x) Ex := Or.inl ⟨by rw [cOver, if_pos h.2], h.1⟩
theorem xl_over2 {cnt : Int32} {cs : Nat → Int32} {k : Nat} (hk : k < 64) (h0 : ¬ bCol cnt (nI k)) (h : cs k = -1) : xnO (cOver cnt cs (nI k)) xNSE := Or.inr ⟨by rw [cOver, if_neg h0, nI_clamp (by omega), if_pos h], rfl⟩
theorem cl_over {cnt : Int32} {cs : Nat → Int32} {k : Nat} (hk : k < 64) (h0 : ¬ bCol cnt (nI k)) (h : ¬ cs k = -1) : cOver cnt cs (nI k) = 0 := by rw [cOver, if_neg h0, nI_clamp (by omega), if_neg h]
theorem xl_ent {la : Nat → Int32} {x : Int32} {Ex : String} (h : Ex = xIOO ∧ ¬ bHas la x) : xn1 (cEnt la x) Ex := ⟨by rw [cEnt, if_neg h.2], h.1⟩
theorem cl_ent {la : Nat → Int32} {x : Int32} (h : bHas la x) : cEnt la x = 0 := by rw [cEnt, if_pos h]
theorem colN {cnt x : Int32} {N : Nat} (h : ¬ bCol cnt x) (hN : cnt = nI N) (h2 : N ≤ 64) : ∃ k, k < N ∧ x = nI k := by
  subst hN
  rcases pk_ix x (n := N) (by omega) with q | q | ⟨j, h1, h3⟩
  · exact absurd (Or.inl q) h
  · exact absurd (Or.inr (i_nlt q)) h
  · exact ⟨j, h1, h3⟩
theorem spN {cnt x y : Int32} {N : Nat} (h : nSp cnt x y) (hN : cnt = nI N) (h2 : N ≤ 64) : ∃ f t, f ≤ t ∧ t < N ∧ x = nI f ∧ y = nI t := by
  obtain ⟨f, h3, rfl⟩ := colN (fun q => h.1 (Or.inl q)) hN h2
  obtain ⟨t, h4, rfl⟩ := colN (fun q => h.1 (Or.inr q)) hN h2
  refine ⟨f, t, ?_, h4, rfl, rfl⟩
  rcases Nat.lt_or_ge t f with q | q
  · exact absurd (nI_lt q (by omega)) h.2
  · exact q
theorem entN {la : Nat → Int32} {x : Int32} (h : bHas la x) : ∃ k, 1 ≤ k ∧ k < 128 ∧ x = nI k := by
  obtain ⟨j, h1, rfl⟩ := vp_in_of (bHas_in h.1 h.2.1) (by decide)
  refine ⟨j, ?_, h1, rfl⟩
  rcases Nat.lt_or_ge j 1 with q | q
  · exact absurd (nI_lt (b := 1) q (by decide)) h.1
  · exact q
theorem gHi_n {A : Int32 → Int32} {w : Int32} : ∀ (j c : Nat), ∃ c' : Nat, gHi A w j (nI c) = nI c' ∧ c ≤ c' ∧ c' < c + 2 ^ j := by
  intro j
  induction j with
  | zero => intro c; exact ⟨c, rfl, Nat.le_refl _, by simp⟩
  | succ j ih =>
    intro c
    rw [gHi]
    by_cases h : w ≤ A (nI c + nI (2 ^ j))
    · rw [if_pos h, nI_add]
      obtain ⟨c', h1, h2, h3⟩ := ih (c + 2 ^ j)
      exact ⟨c', h1, by omega, by rw [Nat.pow_succ]; omega⟩
    · rw [if_neg h]
      obtain ⟨c', h1, h2, h3⟩ := ih c
      exact ⟨c', h1, h2, by rw [Nat.pow_succ]; omega⟩
theorem gHi_ne {A : Int32 → Int32} {w : Int32} : ¬ gHi A w 10 0 = -1 := by
  obtain ⟨c', h1, -, h3⟩ := gHi_n (A := A) (w := w) 10 0
  rw [show (0 : Int32) = nI 0 from rfl, h1]
  intro h
  have h4 := congrArg Int32.toInt h
  rw [nI_toInt (by omega)] at h4
  have h5 : (-1 : Int32).toInt = -1 := rfl
  omega
