/-! TABLES: when they are in order; the reference's VALUE -/
def TabOk (n : Nat) (xs ys : Nat → Int32) : Prop := n ≤ 8 ∧ (∀ k, k < n → 0 ≤ (xs k).toInt ∧ (xs k).toInt ≤ 400 ∧ 0 ≤ (ys k).toInt ∧ (ys k).toInt ≤ 400) ∧ ∀ k, k + 1 < n → (xs k).toInt < (xs (k + 1)).toInt
theorem TabOk.mono {n : Nat} {xs ys : Nat → Int32} (h : TabOk n xs ys) : ∀ d i, i + d + 1 < n → (xs i).toInt < (xs (i + d + 1)).toInt := by
  intro d
  induction d with
  | zero => intro i hi; exact h.2.2 i hi
  | succ d ih => intro i hi; have h1 := ih i (by omega); have h2 := h.2.2 (i + d + 1) (by omega); exact Int.lt_trans h1 h2
theorem TabOk.lt {n : Nat} {xs ys : Nat → Int32} (h : TabOk n xs ys) {i j : Nat} (hij : i < j) (hj : j < n) : (xs i).toInt < (xs j).toInt := by
  have := h.mono (j - i - 1) i (by omega)
  rwa [show i + (j - i - 1) + 1 = j by omega] at this
/-- straight between two points: within their heights -/
theorem seg_t {y0 y1 x0 x1 x : Int32} (hy0 : 0 ≤ y0.toInt ∧ y0.toInt ≤ 400) (hy1 : 0 ≤ y1.toInt ∧ y1.toInt ≤ 400) (hx0 : 0 ≤ x0.toInt) (hx1 : x1.toInt ≤ 400) (h0 : x0.toInt < x1.toInt) (h1 : x0.toInt ≤ x.toInt) (h2 : x.toInt ≤ x1.toInt) :
    (x1 - x0).toInt = x1.toInt - x0.toInt ∧ ((y1 - y0) * (x - x0)).toInt = (y1.toInt - y0.toInt) * (x.toInt - x0.toInt) ∧
    (fdF ((y1 - y0) * (x - x0)) (x1 - x0)).toInt = (y1.toInt - y0.toInt) * (x.toInt - x0.toInt) / (x1.toInt - x0.toInt) ∧
    0 ≤ (y0 + fdF ((y1 - y0) * (x - x0)) (x1 - x0)).toInt ∧ (y0 + fdF ((y1 - y0) * (x - x0)) (x1 - x0)).toInt ≤ 400 ∧
    (y0 + fdF ((y1 - y0) * (x - x0)) (x1 - x0)).toInt = y0.toInt + (y1.toInt - y0.toInt) * (x.toInt - x0.toInt) / (x1.toInt - x0.toInt) ∧
    -400 ≤ y1.toInt - y0.toInt := by
  have e1 : (x1 - x0).toInt = x1.toInt - x0.toInt := t_sub (by omega) (by omega)
  have e2 : (x - x0).toInt = x.toInt - x0.toInt := t_sub (by omega) (by omega)
  have e3 : (y1 - y0).toInt = y1.toInt - y0.toInt := t_sub (by omega) (by omega)
  have hD : 0 < x1.toInt - x0.toInt := by omega
  have hA : 0 ≤ x.toInt - x0.toInt := by omega
  have hAD : x.toInt - x0.toInt ≤ x1.toInt - x0.toInt := by omega
  have hD4 : x1.toInt - x0.toInt ≤ 400 := by omega
  have hR : -400 ≤ y1.toInt - y0.toInt ∧ y1.toInt - y0.toInt ≤ 400 := by omega
  generalize hd : x1.toInt - x0.toInt = D at *
  generalize ha : x.toInt - x0.toInt = A at *
  generalize hr : y1.toInt - y0.toInt = R at *
  have m1 : -160000 ≤ R * A := by
    have h1 : (-400) * A ≤ R * A := Int.mul_le_mul_of_nonneg_right hR.1 hA
    omega
  have m2 : R * A ≤ 160000 := by
    have h1 : R * A ≤ 400 * A := Int.mul_le_mul_of_nonneg_right hR.2 hA
    omega
  have e4 : ((y1 - y0) * (x - x0)).toInt = R * A := by
    rw [t_mul (by rw [e3, e2]; omega) (by rw [e3, e2]; omega), e3, e2]
  have e5 : (fdF ((y1 - y0) * (x - x0)) (x1 - x0)).toInt = R * A / D := by
    rw [fdF_t (by rw [e1]; exact hD) (by rw [e4]; omega), e4, e1]
  have q1 : min R 0 ≤ R * A / D := by
    by_cases hR0 : 0 ≤ R
    · have : 0 ≤ R * A / D := Int.ediv_nonneg (Int.mul_nonneg hR0 hA) (by omega)
      omega
    · have h1 : R * D ≤ R * A := by
        exact Int.mul_le_mul_of_nonpos_left (by omega) hAD
      have h2 : R ≤ R * A / D := by
        apply Int.le_ediv_of_mul_le hD
        exact h1
      omega
  have q2 : R * A / D ≤ max R 0 := by
    by_cases hR0 : 0 ≤ R
    · have h1 : R * A ≤ R * D := Int.mul_le_mul_of_nonneg_left hAD hR0
      have h2 : R * A / D ≤ R := by
        apply Int.ediv_le_of_le_mul hD
        exact h1
      omega
    · have h1 : R * A ≤ 0 := Int.mul_nonpos_of_nonpos_of_nonneg (by omega) hA
      have h2 : R * A / D ≤ 0 := Int.ediv_le_of_le_mul hD (by omega)
      omega
  have e6 : (y0 + fdF ((y1 - y0) * (x - x0)) (x1 - x0)).toInt = y0.toInt + R * A / D := by
    rw [t_add (by rw [e5]; omega) (by rw [e5]; omega), e5]
  refine ⟨e1, e4, e5, ?_, ?_, e6, hR.1⟩
  · rw [e6]; omega
  · rw [e6]; omega
theorem i_sub_add (a b : Int32) : a + (b - a) = b := by
  rw [Int32.add_comm, Int32.sub_add_cancel]
/-- the last point, met from below -/
theorem seg_end {y0 y1 x0 x1 : Int32} (hy0 : 0 ≤ y0.toInt ∧ y0.toInt ≤ 400) (hy1 : 0 ≤ y1.toInt ∧ y1.toInt ≤ 400) (hx0 : 0 ≤ x0.toInt) (hx1 : x1.toInt ≤ 400) (h0 : x0.toInt < x1.toInt) : y0 + fdF ((y1 - y0) * (x1 - x0)) (x1 - x0) = y1 := by
  obtain ⟨e1, e2, e3, -⟩ := seg_t hy0 hy1 hx0 hx1 h0 (x := x1) (by omega) (by omega)
  have e4 : fdF ((y1 - y0) * (x1 - x0)) (x1 - x0) = y1 - y0 := by
    rw [t_eq, e3, Int.mul_ediv_cancel _ (by omega), t_sub (by omega) (by omega)]
  rw [e4, i_sub_add]
theorem fdF_w {a b : Int32} (hb : 0 < b.toInt) : fdF a b = if a < 0 then (if a / b * b = a then a / b else a / b + -1) else a / b := by
  unfold fdF
  have h := t_xor (a := a) (b := b) (by omega)
  have hz : (0 : Int32).toInt = 0 := rfl
  have h2 : a < 0 ↔ a.toInt < 0 := by rw [t_lt, hz]
  by_cases h3 : a < 0
  · rw [if_pos (h.mpr (h2.mp h3)), if_pos h3]
    by_cases h4 : a / b * b = a
    · rw [if_pos h4, if_pos h4]
    · rw [if_neg h4, if_neg h4, Int32.sub_eq_add_neg]
  · rw [if_neg (fun q => h3 (h2.mpr (h.mp q))), if_neg h3]
theorem ipF_ok {n : Nat} {xs ys : Nat → Int32} (h : TabOk n xs ys) {x : Int32} {k : Nat} (hk : k + 1 < n) : ipF xs ys x k = ys k + fdF ((ys (k + 1) - ys k) * (x - xs k)) (xs (k + 1) - xs k) ∧ 0 < (xs (k + 1) - xs k).toInt := by
  have a1 := h.2.1 k (by omega)
  have a2 := h.2.1 (k + 1) hk
  have a3 := h.2.2 k hk
  have e : (xs (k + 1) - xs k).toInt = (xs (k + 1)).toInt - (xs k).toInt := t_sub (by omega) (by omega)
  refine ⟨?_, by omega⟩
  unfold ipF
  rw [if_neg (fun q => by rw [t_le, e] at q; have hz : (0 : Int32).toInt = 0 := rfl; omega)]
/-- where VALUE lies -/
theorem vF_range {n : Nat} {xs ys : Nat → Int32} (h : TabOk n xs ys) (x : Int32) : 0 ≤ (vF n xs ys x).toInt ∧ (vF n xs ys x).toInt ≤ 400 := by
  unfold vF
  by_cases h0 : n = 0
  · rw [if_pos h0]; exact ⟨by decide, by decide⟩
  · rw [if_neg h0]
    by_cases h1 : x ≤ xs 0
    · rw [if_pos h1]; have := h.2.1 0 (by omega); omega
    · rw [if_neg h1]
      by_cases h2 : n ≤ fiF xs x (n - 1) 1
      · rw [if_pos h2]; have := h.2.1 (n - 1) (by omega); omega
      · rw [if_neg h2]
        have g1 := fiF_ge (xs := xs) (x := x) (n - 1) 1
        obtain ⟨s1, s2⟩ := fiF_sp (xs := xs) (x := x) (n - 1) 1
        obtain ⟨k, hk, -⟩ := suc_of (show 0 < fiF xs x (n - 1) 1 by omega)
        rw [hk] at h2 s1 s2 ⊢
        have hk1 : k + 1 < n := by omega
        obtain ⟨i1, i2⟩ := ipF_ok h (x := x) hk1
        rw [Nat.add_sub_cancel, i1]
        have a1 := h.2.1 k (by omega)
        have a2 := h.2.1 (k + 1) hk1
        have a3 := h.2.2 k hk1
        have b1 : (xs k).toInt ≤ x.toInt := by
          by_cases hk0 : k = 0
          · rw [hk0]; rw [t_le] at h1; omega
          · have := s1 k (by omega) (by omega); rw [t_lt] at this; omega
        have b2 : x.toInt ≤ (xs (k + 1)).toInt := by
          have := s2 (by omega); rw [t_lt] at this; omega
        have := seg_t (x := x) ⟨a1.2.2.1, a1.2.2.2⟩ ⟨a2.2.2.1, a2.2.2.2⟩ a1.1 a2.2.1 a3 b1 b2
        exact ⟨this.2.2.2.1, this.2.2.2.2.1⟩
