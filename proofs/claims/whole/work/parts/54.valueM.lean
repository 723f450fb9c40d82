/-! THE REFERENCE'S VALUE of a table whose points are xs, ys -/
theorem rv178 {σ : St} (L : Lay σ) {t k : Nat} {y q : Int32} {ys : Nat → Int32} (ht : t < 7) (hk : k < 8) (hy : sI σ 105 (8 * t + k) = y) : f12_valueOf_p178 σ 101 (nI (8 * t)) (nI k) q = some (y + q, σ) := by
  unfold f12_valueOf_p178
  rw [gd_t (oL101 L), lt_b, rL101_4 L, gd_t nz_s, gd_t (oL105 L), nI_add, gd_t (inb_n (lL105 L) (by omega) (by decide)), ix_n (by omega), hy]
theorem rv68 {σ : St} (L : Lay σ) {t n : Nat} {x : Int32} {xs ys : Nat → Int32} (ht : t < 7) (h : TabOk n xs ys) (hX : ∀ k, k < 8 → sI σ 104 (8 * t + k) = xs k) (hY : ∀ k, k < 8 → sI σ 105 (8 * t + k) = ys k) (hl : ¬ xs (n - 1) < x) (hn : x.toInt < (xs (n - 1)).toInt) :
    ∀ (j k fuel : Nat), k + 1 + j = n → 1 ≤ j → (xs k).toInt ≤ x.toInt → j < fuel → f12_valueOf_p68 fuel σ 101 x (nI (8 * t)) (nI k) = some (ipF xs ys x (fiF xs x j (k + 1) - 1), σ) ∧ fiF xs x j (k + 1) < n := by
  have h8 := h.1
  intro j
  induction j with
  | zero => intro k fuel hm hj; omega
  | succ j ih =>
    intro k fuel hm hj hx0 hf
    obtain ⟨f, rfl, hf2⟩ := suc_of hf
    rw [f12_valueOf_p68, gd_t (oL101 L), lt_b, rL101_3 L, gd_t nz_s, gd_t (oL104 L), nI_add, nI_1, gd_t (inb_n (lL104 L) (by omega) (by decide)), ix_n (by omega), ix_n (by omega), show 8 * t + k + 1 = 8 * t + (k + 1) by omega, hX (k + 1) (by omega), hX k (by omega), lt_b]
    unfold fiF
    by_cases hlt : xs (k + 1) < x
    · rw [if_pos hlt, if_pos hlt, nI_1]
      have hj1 : 1 ≤ j := by
        by_cases hj0 : j = 0
        · rw [show n - 1 = k + 1 by omega] at hl; exact absurd hlt hl
        · omega
      exact ih (k + 1) f (by omega) hj1 (by rw [t_lt] at hlt; omega) (by omega)
    · rw [if_neg hlt, if_neg hlt]
      have hk1 : k + 1 < n := by omega
      obtain ⟨i1, i2⟩ := ipF_ok h (x := x) hk1
      refine ⟨?_, hk1⟩
      rw [gd_t (inb_n (lL104 L) (by omega) (by decide)), lt_b, rL101_4 L, lt_b, gd_t nz_s, gd_t (oL105 L), gd_t (inb_n (lL105 L) (by omega) (by decide)), gd_t (inb_n (lL105 L) (by omega) (by decide)), lt_b, hY (k + 1) (by omega), hY k (by omega)]
      have hz : ¬ xs (k + 1) - xs k = 0 := fun e => by rw [e] at i2; exact absurd i2 (by decide)
      rw [gd_t (by simp [nzI, hz]), lt_b, Nat.add_sub_cancel, i1, fdF_w i2]
      by_cases c1 : (ys (k + 1) - ys k) * (x - xs k) < 0
      · rw [if_pos c1, if_pos c1]
        by_cases c2 : (ys (k + 1) - ys k) * (x - xs k) / (xs (k + 1) - xs k) * (xs (k + 1) - xs k) = (ys (k + 1) - ys k) * (x - xs k)
        · rw [if_pos c2, if_pos c2, rv178 (ys := ys) L ht (by omega) (hY k (by omega))]
        · rw [if_neg c2, if_neg c2, lt_b, rv178 (ys := ys) L ht (by omega) (hY k (by omega))]
      · rw [if_neg c1, if_neg c1, rv178 (ys := ys) L ht (by omega) (hY k (by omega))]
theorem valueOf_s {σ : St} (L : Lay σ) {t n : Nat} {x : Int32} {xs ys : Nat → Int32} (ht : t < 7) (h : TabOk n xs ys) (hX : ∀ k, k < 8 → sI σ 104 (8 * t + k) = xs k) (hY : ∀ k, k < 8 → sI σ 105 (8 * t + k) = ys k) (hN : sI σ 103 t = nI n) : f12_valueOf σ 101 (nI t) x = some (vF n xs ys x, σ) := by
  have h8 := h.1
  unfold f12_valueOf vF
  rw [gd_t (oL101 L), lt_b, rL101_2 L, gd_t nz_s, gd_t (oL103 L), gd_t (inb_n (lL103 L) ht (by decide)), ix_n (by omega), hN, lt_b, lt_b]
  rw [show (8 : Int32) * nI t = nI (8 * t) from pk_mul 8 t]
  by_cases h0 : n = 0
  · rw [if_pos h0, if_pos (by rw [h0]; rfl)]
  · rw [if_neg h0, if_neg (nI_ne0 (by omega) (by omega)), lt_b, rL101_3 L, gd_t nz_s, gd_t (oL104 L), gd_t (inb_n (lL104 L) (by omega) (by decide)), ix_n (by omega), show sI σ 104 (8 * t) = xs 0 from hX 0 (by omega)]
    by_cases h1 : x ≤ xs 0
    · rw [if_pos h1, if_pos h1, lt_b, rL101_4 L, gd_t nz_s, gd_t (oL105 L), gd_t (inb_n (lL105 L) (by omega) (by decide)), show sI σ 105 (8 * t) = ys 0 from hY 0 (by omega)]
    · rw [if_neg h1, if_neg h1, nI_add]
      obtain ⟨n', rfl, -⟩ := suc_of (show 0 < n by omega)
      rw [show 8 * t + (n' + 1) = 8 * t + n' + 1 by omega, nI_pred, gd_t (inb_n (lL104 L) (by omega) (by decide)), ix_n (by omega), hX n' (by omega)]
      rw [t_le] at h1
      have g1 := fiF_ge (xs := xs) (x := x) n' 1
      obtain ⟨s1, s2⟩ := fiF_sp (xs := xs) (x := x) n' 1
      have g2 := fiF_le (xs := xs) (x := x) n' 1
      by_cases h2 : x < xs n'
      · rw [if_pos h2]
        rw [t_lt] at h2
        have hn0 : 1 ≤ n' := by
          by_cases e : n' = 0
          · subst e; omega
          · omega
        obtain ⟨r1, r2⟩ := rv68 L (n := n' + 1) (x := x) ht h hX hY (by show ¬ xs n' < x; rw [t_lt]; omega) h2 n' 0 FU (by omega) hn0 (by omega) (by unfold FU; omega)
        rw [show (0 : Int32) = nI 0 from rfl, r1]
        have r2' : fiF xs x n' 1 < n' + 1 := r2
        show some (ipF xs ys x (fiF xs x n' (0 + 1) - 1), σ) = some ((if n' + 1 ≤ fiF xs x n' 1 then _ else _), σ)
        rw [if_neg (by omega)]
        rfl
      · rw [if_neg h2, lt_b, rL101_4 L, gd_t nz_s, gd_t (oL105 L), gd_t (inb_n (lL105 L) (by omega) (by decide)), hY n' (by omega)]
        rw [t_lt] at h2
        show some (ys n', σ) = some ((if n' + 1 ≤ fiF xs x n' 1 then ys n' else ipF xs ys x (fiF xs x n' 1 - 1)), σ)
        by_cases h3 : n' + 1 ≤ fiF xs x n' 1
        · rw [if_pos h3]
        · rw [if_neg h3]
          obtain ⟨k, hk, -⟩ := suc_of (show 0 < fiF xs x n' 1 by omega)
          rw [hk] at h3 s1 s2 ⊢
          have s3 := s2 (by omega)
          rw [t_lt] at s3
          have hkn : k + 1 = n' := by
            by_cases e : k + 1 = n'
            · exact e
            · have := h.lt (i := k + 1) (j := n') (by omega) (by omega); omega
          subst hkn
          have a1 := h.2.1 k (by omega)
          have a2 := h.2.1 (k + 1) (by omega)
          have a3 := h.2.2 k (by omega)
          obtain ⟨i1, i2⟩ := ipF_ok h (x := x) (k := k) (by omega)
          have hxe : x = xs (k + 1) := by rw [t_eq]; omega
          rw [Nat.add_sub_cancel, i1, hxe, seg_end ⟨a1.2.2.1, a1.2.2.2⟩ ⟨a2.2.2.1, a2.2.2.2⟩ a1.1 a2.2.1 a3]
