/-! the mean of the visits: a positive number is a positive double -/
theorem whole_lo {v : Nat} (h1 : 1 ≤ v) (h2 : v < 2 ^ 31) : ∃ (c : Nat) (q : Int), FP.Core.val64 (FP.Core.i2d (nI v)) = .fin false c q ∧ 1 ≤ c ∧ c < 2 ^ 53 ∧ -53 ≤ q ∧ q ≤ 31 := by
  have hw : FP.Core.DInt (nI v).toInt (FP.Core.i2d (nI v)) := FP.Core.i2d_int (nI v)
  rw [nI_toInt h2] at hw
  have hf := FP.Core.val64_fits (FP.Core.i2d (nI v))
  unfold FP.Core.DInt at hw
  generalize FP.Core.val64 (FP.Core.i2d (nI v)) = D at hw hf ⊢
  cases D with
  | nan => exact hw.elim
  | inf s => exact hw.elim
  | fin s c q =>
    have hw : FP.Core.signed s (c * 2 ^ q.toNat) = (v : Int) * ((2 ^ (-q).toNat : Nat) : Int) := hw
    obtain ⟨f1, -, -, -⟩ := hf
    have f1 : c < 2 ^ 53 := f1
    have hP : 1 ≤ v * 2 ^ (-q).toNat := Nat.mul_pos h1 (Nat.two_pow_pos _)
    rw [← Int.natCast_mul] at hw
    cases s with
    | true =>
      simp only [FP.Core.signed, if_true] at hw
      generalize c * 2 ^ q.toNat = x at hw
      generalize v * 2 ^ (-q).toNat = y at hw hP
      omega
    | false =>
      simp only [FP.Core.signed, Bool.false_eq_true, if_false] at hw
      have h : c * 2 ^ q.toNat = v * 2 ^ (-q).toNat := by
        generalize c * 2 ^ q.toNat = x at hw ⊢
        generalize v * 2 ^ (-q).toNat = y at hw ⊢
        omega
      have hc : 1 ≤ c := by
        rcases Nat.eq_zero_or_pos c with z | z
        · rw [z, Nat.zero_mul] at h
          omega
        · exact z
      refine ⟨c, q, rfl, hc, f1, ?_, ?_⟩
      · refine Classical.byContradiction (fun z => ?_)
        have k1 : 2 ^ 54 ≤ 2 ^ (-q).toNat := Nat.pow_le_pow_right (by decide) (by omega)
        have k2 : 2 ^ (-q).toNat ≤ v * 2 ^ (-q).toNat := Nat.le_mul_of_pos_left _ h1
        rw [show q.toNat = 0 by omega, Nat.pow_zero, Nat.mul_one] at h
        omega
      · refine Classical.byContradiction (fun z => ?_)
        have k1 : 2 ^ 32 ≤ 2 ^ q.toNat := Nat.pow_le_pow_right (by decide) (by omega)
        have k2 : 2 ^ q.toNat ≤ c * 2 ^ q.toNat := Nat.le_mul_of_pos_left _ hc
        rw [show (-q).toNat = 0 by omega, Nat.pow_zero, Nat.mul_one] at h
        omega
theorem mean_pos {t c : Nat} (h1 : 1 ≤ c) (h2 : c < 2 ^ 31) (h3 : 1 ≤ t) (h4 : t < 2 ^ 31) : vf_n64 (FP.ddiv (FP.i2d (nI t)) (FP.i2d (nI c))) ∧ FP.dcmp (FP.ddiv (FP.i2d (nI t)) (FP.i2d (nI c))) FP.dconst0 = some .gt := by
  obtain ⟨a, q, e1, a1, a2, q1, q2⟩ := whole_lo h3 h4
  obtain ⟨b, r, e2, b1, b2, r1, r2⟩ := whole_lo h1 h2
  have hv : FP.Core.val64 (FP.Core.ddiv (FP.Core.i2d (nI t)) (FP.Core.i2d (nI c))) = FP.Core.roundRatio FP.Core.b64 false a b (q - r) := by
    rw [FP.Core.val64_ddiv, e1, e2]
    show (if b = 0 then (if a = 0 then FP.Core.Datum.nan else FP.Core.Datum.inf (false != false)) else FP.Core.roundRatio FP.Core.b64 (false != false) a b (q - r)) = _
    rw [if_neg (by omega)]
    rfl
  have hge : 1 ≤ FP.Core.zmag FP.Core.b64 (FP.Core.roundRatio FP.Core.b64 false a b (q - r)) := by
    refine FP.Core.zmag_roundRatio_ge FP.Core.good_b64 (s := false) (A := a) (B := b) (e := q - r) (e0 := FP.Core.b64.qmin) (V := .fin false 1 FP.Core.b64.qmin) (by omega) ⟨by decide, Int.le_refl _, by decide, Or.inl rfl⟩ (Int.le_refl _) (by rw [FP.Core.qmin_b64]; omega) ?_
    have k1 : 2 ^ 53 ≤ 2 ^ ((q - r) - FP.Core.b64.qmin).toNat := Nat.pow_le_pow_right (by decide) (by rw [FP.Core.qmin_b64]; omega)
    have k2 : 2 ^ ((q - r) - FP.Core.b64.qmin).toNat ≤ a * 2 ^ ((q - r) - FP.Core.b64.qmin).toNat := Nat.le_mul_of_pos_left _ a1
    have k3 : FP.Core.zmag FP.Core.b64 (.fin false 1 FP.Core.b64.qmin) = 1 := by decide +kernel
    rw [k3, Int.sub_self]
    show 1 * 1 * b ≤ a * 2 ^ ((q - r) - FP.Core.b64.qmin).toNat
    omega
  have hn : FP.Core.val64 (FP.Core.ddiv (FP.Core.i2d (nI t)) (FP.Core.i2d (nI c))) ≠ .nan := by
    rw [hv]
    exact FP.Core.roundRatio_ne_nan _ _ _ _ _
  refine ⟨?_, FP.Core.dcmp_gt.mpr ⟨hn, by decide +kernel, ?_⟩⟩
  · have h5 := (FP.Core.ne_nan _).mp hn
    unfold vf_n64
    rw [UInt64.le_iff_toNat_le, UInt64.toNat_and]
    show (FP.Core.ddiv (FP.Core.i2d (nI t)) (FP.Core.i2d (nI c))).toNat &&& 0x7fffffffffffffff ≤ 0x7ff0000000000000
    rw [show (0x7fffffffffffffff : Nat) = 2 ^ 63 - 1 from rfl, Nat.and_two_pow_sub_one_eq_mod]
    exact h5
  · have z0 : FP.Core.zval FP.Core.b64 (FP.Core.val64 FP.Core.dconst0) = 0 := by decide +kernel
    show FP.Core.zval FP.Core.b64 (FP.Core.val64 FP.Core.dconst0) < _
    rw [z0, hv]
    unfold FP.Core.zval
    rw [FP.Core.sgn_roundRatio]
    show (0 : Int) < ((FP.Core.zmag FP.Core.b64 (FP.Core.roundRatio FP.Core.b64 false a b (q - r)) : Nat) : Int)
    omega
/-- what meanVisits answers -/
def Mv (tot cal : Nat) (r : UInt64) : Prop := (cal = 0 ∧ r = FP.dconst0) ∨ (1 ≤ cal ∧ FP.dcmp r FP.dconst0 = some .gt)
