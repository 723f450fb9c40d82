/-! NUMBERS: Int32 by its Int, within bounds -/
theorem t_add {a b : Int32} (h1 : -2147483648 ≤ a.toInt + b.toInt) (h2 : a.toInt + b.toInt ≤ 2147483647) : (a + b).toInt = a.toInt + b.toInt := by
  rw [Int32.toInt_add]; exact Int.bmod_eq_of_le (by omega) (by omega)
theorem t_sub {a b : Int32} (h1 : -2147483648 ≤ a.toInt - b.toInt) (h2 : a.toInt - b.toInt ≤ 2147483647) : (a - b).toInt = a.toInt - b.toInt := by
  rw [Int32.toInt_sub]; exact Int.bmod_eq_of_le (by omega) (by omega)
theorem t_mul {a b : Int32} (h1 : -2147483648 ≤ a.toInt * b.toInt) (h2 : a.toInt * b.toInt ≤ 2147483647) : (a * b).toInt = a.toInt * b.toInt := by
  rw [Int32.toInt_mul]; exact Int.bmod_eq_of_le (by omega) (by omega)
theorem t_div {a b : Int32} (hb : 0 < b.toInt) : (a / b).toInt = a.toInt.tdiv b.toInt := by
  rw [Int32.toInt_div]
  have h1 := Int32.le_toInt a
  have h2 := Int32.toInt_lt a
  have h3 : a.toInt.tdiv b.toInt ≤ 2147483647 := by
    by_cases h : 0 ≤ a.toInt
    · rw [Int.tdiv_eq_ediv_of_nonneg h]
      exact Int.le_trans (Int.ediv_le_self _ h) (by omega)
    · rw [← Int.neg_neg a.toInt, Int.neg_tdiv, Int.tdiv_eq_ediv_of_nonneg (by omega)]
      have := Int.ediv_nonneg (a := -a.toInt) (b := b.toInt) (by omega) (by omega)
      omega
  have h4 : -2147483648 ≤ a.toInt.tdiv b.toInt := by
    by_cases h : 0 ≤ a.toInt
    · rw [Int.tdiv_eq_ediv_of_nonneg h]
      have := Int.ediv_nonneg (a := a.toInt) (b := b.toInt) h (by omega)
      omega
    · rw [← Int.neg_neg a.toInt, Int.neg_tdiv, Int.tdiv_eq_ediv_of_nonneg (by omega)]
      have := Int.ediv_le_self (a := -a.toInt) b.toInt (by omega)
      omega
  exact Int.bmod_eq_of_le (by omega) (by omega)
theorem t_lt {a b : Int32} : a < b ↔ a.toInt < b.toInt := Int32.lt_iff_toInt_lt
theorem t_le {a b : Int32} : a ≤ b ↔ a.toInt ≤ b.toInt := Int32.le_iff_toInt_le
theorem t_eq {a b : Int32} : a = b ↔ a.toInt = b.toInt := ⟨fun h => by rw [h], fun h => Int32.toInt_inj.mp h⟩
theorem t_xor {a b : Int32} (hb : 0 ≤ b.toInt) : (a ^^^ b) < 0 ↔ a.toInt < 0 := by
  have hz : (0 : Int32).toInt = 0 := rfl
  rw [t_lt, hz]
  have e1 : ∀ x : Int32, x.toInt < 0 ↔ x.toBitVec.msb = true := fun x => by
    rw [BitVec.msb_eq_toInt]
    simp
  rw [e1, e1, Int32.toBitVec_xor, BitVec.msb_xor]
  have hb2 : b.toBitVec.msb = false := by
    rw [BitVec.msb_eq_toInt]
    simpa using hb
  rw [hb2]
  simp
/-- floor division as the JDK writes it -/
def fdF (a b : Int32) : Int32 := if (a ^^^ b) < 0 then (if a / b * b = a then a / b else a / b - 1) else a / b
theorem floorDiv_s {σ : St} {a b : Int32} (hb : ¬ b = 0) : fJ9_floorDiv_7cf53 σ a b = some (fdF a b, σ) := by
  unfold fJ9_floorDiv_7cf53 fdF
  rw [gd_t (by simp [nzI, hb]), lt_b]
  by_cases h1 : (a ^^^ b) < 0
  · rw [if_pos h1, if_pos h1]
    by_cases h2 : a / b * b = a
    · rw [if_pos h2, if_pos h2]
    · rw [if_neg h2, if_neg h2]
  · rw [if_neg h1, if_neg h1]
theorem fdF_t {a b : Int32} (hb : 0 < b.toInt) (ha : -2147483647 ≤ a.toInt) : (fdF a b).toInt = a.toInt / b.toInt := by
  unfold fdF
  have q := t_div (a := a) hb
  have hm := Int.mul_tdiv_add_tmod a.toInt b.toInt
  by_cases h : a.toInt < 0
  · rw [if_pos ((t_xor (by omega)).mpr h)]
    have e1 : a.toInt.tdiv b.toInt = -((-a.toInt) / b.toInt) := by
      rw [← Int.neg_neg a.toInt, Int.neg_tdiv, Int.tdiv_eq_ediv_of_nonneg (by omega), Int.neg_neg]
    have hq0 : 0 ≤ (-a.toInt) / b.toInt := Int.ediv_nonneg (by omega) (by omega)
    have hq1 : (-a.toInt) / b.toInt ≤ -a.toInt := Int.ediv_le_self _ (by omega)
    have hd := Int.mul_ediv_add_emod (-a.toInt) b.toInt
    have hr0 := Int.emod_nonneg (-a.toInt) (b := b.toInt) (by omega)
    have hr1 := Int.emod_lt_of_pos (-a.toInt) hb
    have hbq : 0 ≤ b.toInt * ((-a.toInt) / b.toInt) := Int.mul_nonneg (by omega) hq0
    have hp : (a / b * b).toInt = (a / b).toInt * b.toInt := by
      apply t_mul
      · rw [q, e1, Int.neg_mul, Int.mul_comm]
        omega
      · rw [q, e1, Int.neg_mul, Int.mul_comm]
        omega
    by_cases h2 : a / b * b = a
    · rw [if_pos h2, q, e1]
      have h3 : (a / b).toInt * b.toInt = a.toInt := by rw [← hp, h2]
      rw [q, e1] at h3
      have h4 : a.toInt = b.toInt * (-((-a.toInt) / b.toInt)) := by rw [Int.mul_comm]; exact h3.symm
      have h5 : a.toInt / b.toInt = -((-a.toInt) / b.toInt) := by
        conv => lhs; rw [h4]
        exact Int.mul_ediv_cancel_left _ (by omega)
      rw [h5]
    · rw [if_neg h2]
      have h3 : (a / b).toInt * b.toInt ≠ a.toInt := fun e => h2 (t_eq.mpr (hp.trans e))
      rw [t_sub (by rw [q, e1]; show _ ≤ _ - 1; omega) (by rw [q, e1]; show _ - 1 ≤ _; omega), q, e1]
      rw [q, e1] at h3
      show -((-a.toInt) / b.toInt) - 1 = a.toInt / b.toInt
      have hne : (-a.toInt) % b.toInt ≠ 0 := fun e => h3 (by rw [Int.neg_mul, Int.mul_comm]; omega)
      exact (((Int.ediv_emod_unique (r := b.toInt - (-a.toInt) % b.toInt) (q := -((-a.toInt) / b.toInt) - 1) hb).mpr ⟨by
        rw [Int.mul_sub, Int.mul_neg, Int.mul_one]
        omega, by omega, by omega⟩).1).symm
  · rw [if_neg (fun e => h ((t_xor (by omega)).mp e)), q, Int.tdiv_eq_ediv_of_nonneg (by omega)]
