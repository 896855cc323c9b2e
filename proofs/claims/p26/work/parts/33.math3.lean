/-! class and reference side by side -/
def Ex (N e : Nat) : Prop := 1 ≤ e ∧ e < 128 ∧ slo N e < shi N e
abbrev Pt (N e : Nat) : Prop := slo N e + 1 < shi N e
def Fr (e : Nat) (B B' : BK) : Prop := ∀ x, ¬ sub e x → row B' x = row B x
theorem Fr_i (e : Nat) (B : BK) : Fr e B B := fun _ _ => rfl
theorem Fr_t {e : Nat} {A B C : BK} (h1 : Fr e A B) (h2 : Fr e B C) : Fr e A C := fun x hx => (h2 x hx).trans (h1 x hx)
theorem Fr_0 {e : Nat} {A B : BK} (h : Fr (2 * e) A B) : Fr e A B := fun x hx => h x (fun q => hx (sub_0 q))
theorem Fr_1 {e : Nat} {A B : BK} (h : Fr (2 * e + 1) A B) : Fr e A B := fun x hx => h x (fun q => hx (sub_1 q))
theorem Fr_s {e : Nat} {A B : BK} (h : ∀ x, x ≠ e → row B x = row A x) : Fr e A B := fun x hx => h x (fun q => hx (by rw [q]; exact sub_r e))
theorem Ex_lt {N e : Nat} (hN : N < 65) (h : Ex N e) (hp : Pt N e) : e < 64 := (sp_in N hN e h.2.1 h.1).1 hp
theorem Ex_kids {N e : Nat} (hN : N < 65) (h : Ex N e) (hp : Pt N e) : Ex N (2 * e) ∧ Ex N (2 * e + 1) ∧ slo N (2 * e) = slo N e ∧ shi N (2 * e) = slo N (2 * e + 1) ∧ shi N (2 * e + 1) = shi N e ∧ slo N e < shi N (2 * e) ∧ shi N (2 * e) < shi N e := by
  have h64 := Ex_lt hN h hp
  obtain ⟨k1, k2, k3, k4⟩ := sp_split hN h.1 h64 hp
  obtain ⟨g1, g2, g3⟩ := h
  unfold Pt at hp
  refine ⟨⟨by omega, by omega, by omega⟩, ⟨by omega, by omega, by omega⟩, k1, by omega, k4, by omega, by omega⟩
/-- catching up one entry -/
theorem cat1 {N d c e : Nat} {B : BK} (hc : 1 ≤ c) (he : c / 2 = e) (H : Ok N (row B) d c) (hs : (row B c).2.1 < (row B e).1) (h0 : 0 ≤ (row B e).1) :
    Ok N (row (bCatch B c)) d c ∧ (∀ k, hv N (row (bCatch B c)) d c k = bMin (hv N (row B) d c k) (row B e).1) ∧ (∀ x, x ≠ c → row (bCatch B c) x = row B x) ∧ (row (bCatch B c) c).2.1 = (row B c).2.1 := by
  unfold bCatch
  by_cases q : bLag B c
  · have q2 : (row B e).1 < (row B c).1 := by
      have q3 : ¬ B.1 c ≤ B.1 (c / 2) := q
      rw [he] at q3
      exact i_lt q3
    rw [if_pos q, he]
    have h1 : row (bPress B c (B.1 e)) c = rPress (row B c) (row B e).1 := row_p_s B c _
    have h2 : ∀ x, x ≠ c → row (bPress B c (B.1 e)) x = row B x := fun x hx => row_p_n hx
    exact ⟨Ok_p hc H h1 h2 hs q2 h0, hv_p hc h1 h2 (Int32.le_of_lt q2), h2, by rw [h1]; rfl⟩
  · rw [if_neg q]
    refine ⟨H, fun k => (bMin_r ?_).symm, fun _ _ => rfl, rfl⟩
    have q3 : ¬ ¬ B.1 c ≤ B.1 (c / 2) := q
    rw [he] at q3
    exact Int32.le_trans (hv_le d c k) (Classical.not_not.mp q3)
theorem Ok_1 {N d e : Nat} {R : Nat → RW} (he : e < 128) (hd : 128 ≤ e * 2 ^ d) (H : Ok N R d e) : Ok1 (R e) (hv N R d e) (slo N e) (shi N e) := by
  cases d with
  | zero => simp at hd; omega
  | succ d => exact H.1
theorem Ok_s {N d e : Nat} {R : Nat → RW} (he : e < 128) (hd : 128 ≤ e * 2 ^ d) (H : Ok N R d e) : (R e).2.1 ≤ (R e).1 := Int32.le_of_lt (Ok_1 he hd H).2.2.1
theorem cat2 {N d e : Nat} {B : BK} (he : 1 ≤ e) (hp : Pt N e) (H : Ok N (row B) (d + 1) e) :
    Ok N (row (bCatch2 B e)) d (2 * e) ∧ Ok N (row (bCatch2 B e)) d (2 * e + 1) ∧ (∀ k, hv N (row (bCatch2 B e)) d (kid N e k) k = hv N (row B) (d + 1) e k) ∧ (∀ x, x ≠ 2 * e → x ≠ 2 * e + 1 → row (bCatch2 B e) x = row B x) ∧ (row (bCatch2 B e) (2 * e)).2.1 ≤ (row B e).2.1 ∧ (row (bCatch2 B e) (2 * e + 1)).2.1 ≤ (row B e).2.1 := by
  obtain ⟨a1, a2, -⟩ := H
  obtain ⟨b1, b2, b3, b4⟩ := a2 hp
  have hlt : (row B e).2.1 < (row B e).1 := a1.2.2.1
  obtain ⟨c1, c2, c3, c4⟩ := cat1 (e := e) (show 1 ≤ 2 * e by omega) (by omega) b1 (Int32.lt_of_le_of_lt b3 hlt) a1.1
  have r1 : row (bCatch B (2 * e)) (2 * e + 1) = row B (2 * e + 1) := c3 _ (by omega)
  have r2 : row (bCatch B (2 * e)) e = row B e := c3 _ (by omega)
  have o1 : Ok N (row (bCatch B (2 * e))) d (2 * e + 1) := Ok_c d _ (by omega) (fun x hx => c3 x (by have := sub_le hx; omega)) b2
  obtain ⟨d1, d2, d3, d4⟩ := cat1 (e := e) (show 1 ≤ 2 * e + 1 by omega) (by omega) o1 (by rw [r1, r2]; exact Int32.lt_of_le_of_lt b4 hlt) (by rw [r2]; exact a1.1)
  have k0 : ∀ x, sub (2 * e) x → row (bCatch2 B e) x = row (bCatch B (2 * e)) x := fun x hx => d3 x (fun q => sub_x he hx (by rw [q]; exact sub_r _))
  refine ⟨Ok_c d _ (by omega) k0 c1, d1, fun k => ?_, fun x h1 h2 => (d3 x h2).trans (c3 x h1), ?_, ?_⟩
  · rw [hv, if_pos hp]
    unfold kid
    split
    · rw [hv_c d _ (by omega) k0 k, c2]
    · show hv N (row (bCatch (bCatch B (2 * e)) (2 * e + 1))) d (2 * e + 1) k = _
      rw [d2, r2, hv_c d (2 * e + 1) (by omega) (fun x hx => c3 x (by have := sub_le hx; omega)) k]
  · rw [k0 _ (sub_r _), c4]; exact b3
  · show (row (bCatch (bCatch B (2 * e)) (2 * e + 1)) (2 * e + 1)).2.1 ≤ _
    rw [d4, r1]; exact b4
/-- telling anew -/
theorem told {N d e : Nat} {B : BK} (hN : N < 65) (hE : Ex N e) (hp : Pt N e) (hd : 128 ≤ e * 2 ^ (d + 1)) (A1 : Ok N (row B) d (2 * e)) (A2 : Ok N (row B) d (2 * e + 1)) :
    Ok N (row (bTell B e)) (d + 1) e ∧ (∀ k, slo N e ≤ k → k < shi N e → hv N (row (bTell B e)) (d + 1) e k = hv N (row B) d (kid N e k) k) := by
  obtain ⟨E0, E1, s1, s2, s3, s4, s5⟩ := Ex_kids hN hE hp
  have he := hE.1
  have o1 := Ok_1 E0.2.1 (pw_1 hd) A1
  have o2 := Ok_1 E1.2.1 (pw_2 hd) A2
  have c0 : ∀ x, x ≠ e → row (bTell B e) x = row B x := fun x hx => row_t_n hx
  have q1 : ∀ k, hv N (row (bTell B e)) d (kid N e k) k = hv N (row B) d (kid N e k) k := fun k => hv_c d _ (kid_1 k he) (fun x hx => c0 x (sub_kid he hx).2) k
  have q2 : ∀ k, hv N (row (bTell B e)) (d + 1) e k = hv N (row B) d (kid N e k) k := by
    intro k
    rw [hv, if_pos hp, q1]
    refine bMin_r (Int32.le_trans (hv_le d _ k) ?_)
    rw [row_t_s he]
    have e1 : (rTell (row B (2 * e)) (row B (2 * e + 1))).1.toInt = max (row B (2 * e)).1.toInt (row B (2 * e + 1)).1.toInt := bMax_i _ _
    unfold kid
    rw [Int32.le_iff_toInt_le, e1]
    split <;> omega
  have p1 : Ok1 (row B (2 * e)) (fun k => hv N (row B) d (kid N e k) k) (slo N e) (shi N (2 * e)) := by
    rw [s1] at o1
    exact Ok1_c o1 (fun k _ h2 => by unfold kid; rw [if_pos h2])
  have p2 : Ok1 (row B (2 * e + 1)) (fun k => hv N (row B) d (kid N e k) k) (shi N (2 * e)) (shi N e) := by
    rw [← s2, s3] at o2
    exact Ok1_c o2 (fun k h1 _ => by unfold kid; rw [if_neg (by omega)])
  obtain ⟨t1, t2, t3⟩ := Ok1_t p1 p2 (by omega) (by omega)
  refine ⟨⟨?_, fun _ => ⟨?_, ?_, ?_, ?_⟩, fun h => absurd hp h⟩, fun k _ _ => q2 k⟩
  · rw [row_t_s he]
    exact Ok1_c t1 (fun k _ _ => q2 k)
  · exact Ok_c d _ (by omega) (fun x hx => c0 x (by have := sub_le hx; omega)) A1
  · exact Ok_c d _ (by omega) (fun x hx => c0 x (by have := sub_le hx; omega)) A2
  · rw [row_t_s he, c0 _ (by omega)]; exact t2
  · rw [row_t_s he, c0 _ (by omega)]; exact t3
/-- nothing to tell -/
theorem untold {N d e : Nat} {B B2 : BK} (hp : Pt N e) (H : Ok N (row B) (d + 1) e) (hr : row B2 e = row B e) (A1 : Ok N (row B2) d (2 * e)) (A2 : Ok N (row B2) d (2 * e + 1)) (S1 : (row B2 (2 * e)).2.1 ≤ (row B e).2.1) (S2 : (row B2 (2 * e + 1)).2.1 ≤ (row B e).2.1)
    (hk : ∀ k, slo N e ≤ k → k < shi N e → hv N (row B2) d (kid N e k) k = hv N (row B) (d + 1) e k) :
    Ok N (row B2) (d + 1) e ∧ (∀ k, slo N e ≤ k → k < shi N e → hv N (row B2) (d + 1) e k = hv N (row B) (d + 1) e k) := by
  have q2 : ∀ k, slo N e ≤ k → k < shi N e → hv N (row B2) (d + 1) e k = hv N (row B) (d + 1) e k := by
    intro k h1 h2
    rw [hv, if_pos hp, hk k h1 h2, hr]
    exact bMin_r (hv_le (d + 1) e k)
  refine ⟨⟨?_, fun _ => ⟨A1, A2, by rw [hr]; exact S1, by rw [hr]; exact S2⟩, fun h => absurd hp h⟩, q2⟩
  rw [hr]
  exact Ok1_c H.1 q2
