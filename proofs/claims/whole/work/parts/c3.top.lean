/-! A TABLE'S TOP from 0 to x -/
def tuL (xs ys : Nat → Int32) (x : Int32) : Nat → Nat → Int32 → Int32
  | 0, _, a => a
  | j + 1, i, a => if xs i ≤ x then tuL xs ys x j (i + 1) (mxI a (ys i)) else a
def tuF (n : Nat) (xs ys : Nat → Int32) (x : Int32) : Int32 := tuL xs ys x n 0 (mxI (vF n xs ys 0) (vF n xs ys x))
theorem mx_l {a b : Int32} : a.toInt ≤ (mxI a b).toInt := by
  unfold mxI
  by_cases h : a < b
  · rw [if_pos h]; rw [t_lt] at h; omega
  · rw [if_neg h]; omega
theorem mx_r {a b : Int32} : b.toInt ≤ (mxI a b).toInt := by
  unfold mxI
  by_cases h : a < b
  · rw [if_pos h]; omega
  · rw [if_neg h]; rw [t_lt] at h; omega
theorem mx_P {P : Int32 → Prop} {a b : Int32} (ha : P a) (hb : P b) : P (mxI a b) := by
  unfold mxI
  by_cases h : a < b
  · rw [if_pos h]; exact hb
  · rw [if_neg h]; exact ha
theorem tuL_ge {xs ys : Nat → Int32} {x : Int32} : ∀ j i a, a.toInt ≤ (tuL xs ys x j i a).toInt := by
  intro j
  induction j with
  | zero => intro i a; exact Int.le_refl _
  | succ j ih =>
    intro i a
    unfold tuL
    by_cases h : xs i ≤ x
    · rw [if_pos h]; exact Int.le_trans mx_l (ih (i + 1) _)
    · rw [if_neg h]; exact Int.le_refl _
theorem tuL_in {xs ys : Nat → Int32} {x : Int32} : ∀ j i a k, i ≤ k → k < i + j → (∀ q, i ≤ q → q ≤ k → xs q ≤ x) → (ys k).toInt ≤ (tuL xs ys x j i a).toInt := by
  intro j
  induction j with
  | zero => intro i a k h1 h2; omega
  | succ j ih =>
    intro i a k h1 h2 h3
    unfold tuL
    rw [if_pos (h3 i (by omega) h1)]
    by_cases e : k = i
    · rw [e]; exact Int.le_trans mx_r (tuL_ge j (i + 1) _)
    · exact ih (i + 1) _ k (by omega) (by omega) (fun q q1 q2 => h3 q (by omega) q2)
theorem tuL_P {P : Int32 → Prop} {xs ys : Nat → Int32} {x : Int32} : ∀ j i a, P a → (∀ k, i ≤ k → k < i + j → xs k ≤ x → P (ys k)) → P (tuL xs ys x j i a) := by
  intro j
  induction j with
  | zero => intro i a h _; exact h
  | succ j ih =>
    intro i a h hk
    unfold tuL
    by_cases c : xs i ≤ x
    · rw [if_pos c]; exact ih (i + 1) _ (mx_P h (hk i (by omega) (by omega) c)) (fun k h1 h2 h3 => hk k (by omega) (by omega) h3)
    · rw [if_neg c]; exact h
theorem vF_cs {n : Nat} {xs ys : Nat → Int32} (h : TabOk n xs ys) (x : Int32) : (n = 0 ∧ vF n xs ys x = 0) ∨ (0 < n ∧ x.toInt ≤ (xs 0).toInt ∧ vF n xs ys x = ys 0) ∨ (0 < n ∧ (xs (n - 1)).toInt < x.toInt ∧ vF n xs ys x = ys (n - 1)) ∨
    ∃ k, k + 1 < n ∧ (xs k).toInt < x.toInt ∧ x.toInt ≤ (xs (k + 1)).toInt ∧ (vF n xs ys x).toInt = (ys k).toInt + ((ys (k + 1)).toInt - (ys k).toInt) * (x.toInt - (xs k).toInt) / ((xs (k + 1)).toInt - (xs k).toInt) := by
  unfold vF
  by_cases h0 : n = 0
  · rw [if_pos h0]; exact Or.inl ⟨h0, rfl⟩
  · rw [if_neg h0]
    by_cases h1 : x ≤ xs 0
    · rw [if_pos h1]; exact Or.inr (Or.inl ⟨by omega, t_le.mp h1, rfl⟩)
    · rw [if_neg h1]
      rw [t_le] at h1
      have g1 := fiF_ge (xs := xs) (x := x) (n - 1) 1
      obtain ⟨s1, s2⟩ := fiF_sp (xs := xs) (x := x) (n - 1) 1
      by_cases h2 : n ≤ fiF xs x (n - 1) 1
      · rw [if_pos h2]
        refine Or.inr (Or.inr (Or.inl ⟨by omega, ?_, rfl⟩))
        by_cases e : n = 1
        · rw [e]; show (xs 0).toInt < _; omega
        · have := s1 (n - 1) (by omega) (by omega); rw [t_lt] at this; exact this
      · rw [if_neg h2]
        obtain ⟨k, hk, -⟩ := suc_of (show 0 < fiF xs x (n - 1) 1 by omega)
        rw [hk] at h2 s1 s2 ⊢
        have hk1 : k + 1 < n := by omega
        obtain ⟨i1, i2⟩ := ipF_ok h (x := x) hk1
        rw [Nat.add_sub_cancel, i1]
        have a1 := h.2.1 k (by omega)
        have a2 := h.2.1 (k + 1) hk1
        have a3 := h.2.2 k hk1
        have b1 : (xs k).toInt < x.toInt := by
          by_cases hk0 : k = 0
          · rw [hk0]; omega
          · have := s1 k (by omega) (by omega); rw [t_lt] at this; omega
        have b2 : x.toInt ≤ (xs (k + 1)).toInt := by
          have := s2 (by omega); rw [t_lt] at this; omega
        have := seg_t (x := x) ⟨a1.2.2.1, a1.2.2.2⟩ ⟨a2.2.2.1, a2.2.2.2⟩ a1.1 a2.2.1 a3 (by omega) b2
        exact Or.inr (Or.inr (Or.inr ⟨k, hk1, b1, b2, this.2.2.2.2.2.1⟩))
theorem seg_le {R A D : Int} (hD : 0 < D) (hA : 0 ≤ A) (hAD : A ≤ D) : (0 ≤ R → R * A / D ≤ R) ∧ (R ≤ 0 → R * A / D ≤ 0) := by
  constructor
  · intro h
    exact Int.ediv_le_of_le_mul hD (Int.mul_le_mul_of_nonneg_left hAD h)
  · intro h
    have h1 : R * A ≤ 0 := Int.mul_nonpos_of_nonpos_of_nonneg h hA
    exact Int.ediv_le_of_le_mul hD (by omega)
theorem tab_le {n : Nat} {xs ys : Nat → Int32} (h : TabOk n xs ys) {i j : Nat} (hij : i ≤ j) (hj : j < n) : (xs i).toInt ≤ (xs j).toInt := by
  by_cases e : i = j
  · rw [e]; exact Int.le_refl _
  · exact Int.le_of_lt (h.lt (by omega) hj)
theorem tu_y {n : Nat} {xs ys : Nat → Int32} (h : TabOk n xs ys) {k : Nat} {x : Int32} (hk : k < n) (hx : (xs k).toInt ≤ x.toInt) : (ys k).toInt ≤ (tuF n xs ys x).toInt :=
  tuL_in n 0 _ k (by omega) (by omega) (fun q _ q2 => by rw [t_le]; have := tab_le h q2 hk; omega)
theorem tu_0 {n : Nat} {xs ys : Nat → Int32} {x : Int32} : (vF n xs ys 0).toInt ≤ (tuF n xs ys x).toInt := Int.le_trans mx_l (tuL_ge n 0 _)
theorem tu_x {n : Nat} {xs ys : Nat → Int32} {x : Int32} : (vF n xs ys x).toInt ≤ (tuF n xs ys x).toInt := Int.le_trans mx_r (tuL_ge n 0 _)
theorem tu_up {n : Nat} {xs ys : Nat → Int32} (h : TabOk n xs ys) {z x : Int32} (h0 : 0 ≤ z.toInt) (hz : z.toInt ≤ x.toInt) : (vF n xs ys z).toInt ≤ (tuF n xs ys x).toInt := by
  rcases vF_cs h z with ⟨rfl, e⟩ | ⟨n0, h1, e⟩ | ⟨n0, h1, e⟩ | ⟨k, hk, h1, h2, e⟩
  · rw [e]
    have := tu_x (n := 0) (xs := xs) (ys := ys) (x := x)
    have v := vF_range h x
    have z0 : (0 : Int32).toInt = 0 := rfl
    omega
  · rw [e]
    have e0 : vF n xs ys 0 = ys 0 := by
      unfold vF
      rw [if_neg (by omega), if_pos (by rw [t_le]; have z0 : (0 : Int32).toInt = 0 := rfl; omega)]
    rw [← e0]; exact tu_0
  · rw [e]; exact tu_y h (by omega) (by omega)
  · have a1 := h.2.1 k (by omega)
    have a3 := h.2.2 k hk
    have y0 := tu_y (k := k) (x := x) h (by omega) (by omega)
    generalize hR : (ys (k + 1)).toInt - (ys k).toInt = R at e
    have sl := seg_le (R := R) (A := z.toInt - (xs k).toInt) (D := (xs (k + 1)).toInt - (xs k).toInt) (by omega) (by omega) (by omega)
    by_cases r0 : R ≤ 0
    · have := sl.2 r0
      omega
    · by_cases c : (xs (k + 1)).toInt ≤ x.toInt
      · have y1 := tu_y (k := k + 1) (x := x) h hk c
        have := sl.1 (by omega)
        omega
      · have vx := tu_x (n := n) (xs := xs) (ys := ys) (x := x)
        rcases vF_cs h x with ⟨q, -⟩ | ⟨-, q, -⟩ | ⟨-, q, -⟩ | ⟨k2, hk2, q1, q2, e2⟩
        · omega
        · have := tab_le h (i := 0) (j := k) (by omega) (by omega)
          omega
        · have := tab_le h (i := k + 1) (j := n - 1) (by omega) (by omega)
          omega
        · have ek : k2 = k := by
            by_cases l1 : k2 < k
            · have := tab_le h (i := k2 + 1) (j := k) (by omega) (by omega)
              omega
            · by_cases l2 : k < k2
              · have := tab_le h (i := k + 1) (j := k2) (by omega) (by omega)
                omega
              · omega
          subst ek
          rw [hR] at e2
          have m : R * (z.toInt - (xs k2).toInt) ≤ R * (x.toInt - (xs k2).toInt) := Int.mul_le_mul_of_nonneg_left (by omega) (by omega)
          have d : R * (z.toInt - (xs k2).toInt) / ((xs (k2 + 1)).toInt - (xs k2).toInt) ≤ R * (x.toInt - (xs k2).toInt) / ((xs (k2 + 1)).toInt - (xs k2).toInt) := Int.ediv_le_ediv (by omega) m
          omega
theorem tu_mo {n : Nat} {xs ys : Nat → Int32} (h : TabOk n xs ys) {x y : Int32} (h0 : 0 ≤ x.toInt) (hx : x.toInt ≤ y.toInt) : (tuF n xs ys x).toInt ≤ (tuF n xs ys y).toInt := by
  have z0 : (0 : Int32).toInt = 0 := rfl
  refine tuL_P (P := fun v => v.toInt ≤ (tuF n xs ys y).toInt) n 0 _ (mx_P (P := fun v => v.toInt ≤ (tuF n xs ys y).toInt) (tu_up h (by omega) (by omega)) (tu_up h h0 hx)) (fun k _ h2 h3 => tu_y h (by omega) ?_)
  rw [t_le] at h3
  omega
theorem tu_rg {n : Nat} {xs ys : Nat → Int32} (h : TabOk n xs ys) (x : Int32) : 0 ≤ (tuF n xs ys x).toInt ∧ (tuF n xs ys x).toInt ≤ 400 := by
  refine tuL_P (P := fun v => 0 ≤ v.toInt ∧ v.toInt ≤ 400) n 0 _ (mx_P (P := fun v => 0 ≤ v.toInt ∧ v.toInt ≤ 400) (vF_range h 0) (vF_range h x)) (fun k _ h2 h3 => ?_)
  have := h.2.1 k (by omega)
  omega
theorem topUpTo_l {σ : St} (L : Lay σ) {t n : Nat} {x : Int32} (ht : t < 7) (hn : sI σ (8 + 3 * t) 2 = nI n) (h8 : n ≤ 8) : ∀ (j i fuel : Nat) (a : Int32), i + j = n → j < fuel →
    f9_topUpTo_p16 fuel σ (8 + 3 * t) x a (nI i) = some (tuL (sI σ (9 + 3 * t)) (sI σ (10 + 3 * t)) x j i a, σ) := by
  obtain ⟨-, k1, k2, k3, r1, r2⟩ := lay_tab L ht
  have o1 : ob σ (8 + 3 * t) 9 = true := ob_l L (by omega) (by omega) (by rw [k1])
  have o2 : ob σ (9 + 3 * t) 14 = true := ob_l L (by omega) (by omega) (by rw [k2])
  have o3 : ob σ (10 + 3 * t) 14 = true := ob_l L (by omega) (by omega) (by rw [k3])
  have l2 : (sK σ (9 + 3 * t)).2 = 8 := by rw [k2]
  have l3 : (sK σ (10 + 3 * t)).2 = 8 := by rw [k3]
  intro j
  induction j with
  | zero =>
    intro i fuel a hi hf
    obtain ⟨f, rfl, -⟩ := suc_of hf
    rw [f9_topUpTo_p16, gd_t o1, hn, if_neg (nI_nlt (by omega) (by omega))]
    rfl
  | succ j ih =>
    intro i fuel a hi hf
    obtain ⟨f, rfl, -⟩ := suc_of hf
    rw [f9_topUpTo_p16, gd_t o1, hn, if_pos (nI_lt (by omega) (by omega)), lt_b, r1, gd_t (nz_t (by omega)), gd_t o2, gd_t (inb_n l2 (by omega) (by decide)), ix_n (by omega)]
    unfold tuL
    by_cases h : sI σ (9 + 3 * t) i ≤ x
    · rw [if_pos h, if_pos h, lt_b, r2, gd_t (nz_t (by omega)), gd_t o3, gd_t (inb_n l3 (by omega) (by decide)), bd_s max_s, lt_b, nI_1]
      exact ih (i + 1) f _ (by omega) (by omega)
    · rw [if_neg h, if_neg h]
theorem topUpTo_s {σ : St} (L : Lay σ) (V : VT σ) {t : Nat} (ht : t < 7) (x : Int32) : f9_topUpTo σ (8 + 3 * t) x = some (tuF (tn σ t) (sI σ (9 + 3 * t)) (sI σ (10 + 3 * t)) x, σ) := by
  obtain ⟨v1, v2⟩ := V t ht
  obtain ⟨-, k1, -⟩ := lay_tab L ht
  have o1 : ob σ (8 + 3 * t) 9 = true := ob_l L (by omega) (by omega) (by rw [k1])
  unfold f9_topUpTo
  rw [gd_t o1, bd_s (at_s L ht v1 v2.1), bd_s (at_s L ht v1 v2.1), bd_s max_s]
  exact topUpTo_l L ht v1 v2.1 (tn σ t) 0 FU _ (by omega) (by have := v2.1; unfold FU; omega)
