theorem pm48 {σ : St} (L : Lay σ) {t n : Nat} {x y : Int32} (ht : t < 7) (hn : sI σ 103 t = nI n) (h8 : n ≤ 8) : ∀ (j k fuel : Nat), k + j = n → j < fuel →
    f12_point_p48 fuel σ 101 (nI t) x y (nI (8 * t)) (nI k) = f12_point_p79 σ 101 (nI t) x y (nI (8 * t)) (nI (fiF (fun q => sI σ 104 (8 * t + q)) x j k)) := by
  intro j
  induction j with
  | zero =>
    intro k fuel hm hf
    obtain ⟨f, rfl, -⟩ := suc_of hf
    rw [f12_point_p48, gd_t (oL101 L), lt_b, rL101_2 L, gd_t nz_s, gd_t (oL103 L), gd_t (inb_n (lL103 L) ht (by decide)), ix_n (by omega), hn, if_neg (nI_nlt (by omega) (by omega))]
    rfl
  | succ j ih =>
    intro k fuel hm hf
    obtain ⟨f, rfl, hf2⟩ := suc_of hf
    rw [f12_point_p48, gd_t (oL101 L), lt_b, rL101_2 L, gd_t nz_s, gd_t (oL103 L), gd_t (inb_n (lL103 L) ht (by decide)), ix_n (by omega), hn, if_pos (nI_lt (by omega) (by omega)), lt_b, rL101_3 L, gd_t nz_s, gd_t (oL104 L), nI_add, gd_t (inb_n (lL104 L) (by omega) (by decide)), ix_n (by omega)]
    unfold fiF
    by_cases h : sI σ 104 (8 * t + k) < x
    · rw [if_pos h, if_pos h, lt_b, nI_1]
      exact ih (k + 1) f (by omega) (by omega)
    · rw [if_neg h, if_neg h]
theorem pm108 {σ : St} (L : Lay σ) {t n k : Nat} {x y : Int32} (ht : t < 7) (hn : sI σ 103 t = nI n) (h8 : n ≤ 8) :
    f12_point_p108 σ 101 (nI t) x y (nI (8 * t)) (nI k) = if n < 8 then f12_point_p142 FU σ 101 (nI t) x y (nI (8 * t)) (nI k) (nI n) else some (0, σ) := by
  unfold f12_point_p108 f12_point_p109
  rw [if_pos rfl, gd_t (oL101 L), lt_b, rL101_2 L, gd_t nz_s, gd_t (oL103 L), gd_t (inb_n (lL103 L) ht (by decide)), ix_n (by omega), hn]
  by_cases h : n < 8
  · rw [if_pos h, if_neg (fun q => by have := (nI_eq (a := n) (b := 8) (by omega) (by omega)).mp q; omega)]
    unfold f12_point_p129
    rw [if_pos rfl, gd_t (oL101 L), lt_b, rL101_2 L, gd_t nz_s, gd_t (oL103 L), gd_t (inb_n (lL103 L) ht (by decide)), lt_b, ix_n (by omega), hn]
  · rw [if_neg h, if_pos (by rw [show n = 8 by omega]; rfl)]
theorem pointM_s {σ : St} (L : Lay σ) {t n k : Nat} {x y : Int32} (ht : t < 7) (hn : sI σ 103 t = nI n) (h8 : n ≤ 8) (hk : k = fiF (fun q => sI σ 104 (8 * t + q)) x n 0) :
    f12_point σ 101 (nI t) x y = if (0 ≤ x ∧ x ≤ 400) ∧ (0 ≤ y ∧ y ≤ 400) then (if k < n ∧ sI σ 104 (8 * t + k) = x then some (1, wI (wI (wI σ 101 0 0) 104 (8 * t + k) x) 105 (8 * t + k) y) else if n < 8 then f12_point_p142 FU (wI σ 101 0 0) 101 (nI t) x y (nI (8 * t)) (nI k) (nI n) else some (0, wI σ 101 0 0)) else some (0, wI σ 101 0 0) := by
  have L0 : Lay (wI σ 101 0 0) := Lay_wI L
  have hkn : k ≤ n := by rw [hk]; have := fiF_le (xs := fun q => sI σ 104 (8 * t + q)) (x := x) n 0; omega
  have e104 : ∀ q, sI (wI σ 101 0 0) 104 q = sI σ 104 q := sI_wo (by decide)
  have e103 : sI (wI σ 101 0 0) 103 t = nI n := by rw [sI_wo (by decide), hn]
  have ht6 : 0 ≤ nI t ∧ nI t ≤ 6 := ⟨nI_pos' (by omega), nI_le (b := 6) (by omega) (by decide)⟩
  unfold f12_point
  rw [gd_t (oL101 L), lt_b, bd_s within_s, ite_B, if_pos ht6, bd_s within_s, ite_B]
  by_cases hx : 0 ≤ x ∧ x ≤ 400
  · rw [if_pos hx, bd_s within_s, ite_B]
    by_cases hy : 0 ≤ y ∧ y ≤ 400
    · have e48 := pm48 (x := x) (y := y) L0 ht e103 h8 n 0 FU (by omega) (by unfold FU; omega)
      simp only [nI_0, e104] at e48
      rw [if_pos hy, if_pos ⟨hx, hy⟩, lt_b, show (8 : Int32) = nI 8 from rfl, pk_mul, e48, ← hk]
      unfold f12_point_p79
      rw [gd_t (oL101 L0), lt_b, rL101_2 L0, gd_t nz_s, gd_t (oL103 L0), gd_t (inb_n (lL103 L0) ht (by decide)), ix_n (by omega), e103]
      by_cases h : k < n
      · rw [if_pos (nI_lt h (by omega)), lt_b, rL101_3 L0, gd_t nz_s, gd_t (oL104 L0), nI_add, gd_t (inb_n (lL104 L0) (by omega) (by decide)), ix_n (by omega), e104]
        by_cases g : sI σ 104 (8 * t + k) = x
        · rw [if_pos g, if_pos ⟨h, g⟩]
          unfold f12_point_p109 f12_point_p129
          rw [if_neg (by decide), if_neg (by decide), pm209 L0 ht (by omega)]
        · rw [if_neg g, if_neg (fun q => g q.2), pm108 L0 ht e103 h8]
      · rw [if_neg (nI_nlt (by omega) (by omega)), if_neg (fun q => h q.1), pm108 L0 ht e103 h8]
    · rw [if_neg hy, if_neg (fun q => hy q.2)]
  · rw [if_neg hx, if_neg (fun q => hx q.1)]
theorem insF_lt {f : Nat → Int32} {k j q : Nat} {v : Int32} (h : q < k) : insF f k j v q = f q := if_pos (Or.inl h)
theorem insF_eq {f : Nat → Int32} {k j : Nat} {v : Int32} (h : k ≤ j) : insF f k j v k = v := by unfold insF; rw [if_neg (by omega), if_pos rfl]
theorem insF_gt {f : Nat → Int32} {k j q : Nat} {v : Int32} (h : k < q) (h2 : q ≤ j) : insF f k j v q = f (q - 1) := by unfold insF; rw [if_neg (by omega), if_neg (by omega)]
theorem insF_ou {f : Nat → Int32} {k j q : Nat} {v : Int32} (h : j < q) : insF f k j v q = f q := if_pos (Or.inr h)
theorem TabOk_ins {n k : Nat} {xs ys : Nat → Int32} {x y : Int32} (h : TabOk n xs ys) (h8 : n < 8) (hk : k = fiF xs x n 0) (hne : ¬ (k < n ∧ xs k = x)) (hx : 0 ≤ x.toInt ∧ x.toInt ≤ 400) (hy : 0 ≤ y.toInt ∧ y.toInt ≤ 400) : TabOk (n + 1) (insF xs k n x) (insF ys k n y) := by
  have sp := fiF_sp (xs := xs) (x := x) n 0
  have hkn : k ≤ n := by rw [hk]; have := fiF_le (xs := xs) (x := x) n 0; omega
  rw [← hk] at sp
  refine ⟨by omega, ?_, ?_⟩
  · intro q hq
    by_cases h1 : q < k
    · rw [insF_lt h1, insF_lt h1]; exact h.2.1 q (by omega)
    · by_cases h2 : q = k
      · rw [h2, insF_eq hkn, insF_eq hkn]; exact ⟨hx.1, hx.2, hy.1, hy.2⟩
      · rw [insF_gt (by omega) (by omega), insF_gt (by omega) (by omega)]; exact h.2.1 (q - 1) (by omega)
  · intro q hq
    by_cases h1 : q + 1 < k
    · rw [insF_lt h1, insF_lt (by omega)]; exact h.2.2 q (by omega)
    · by_cases h2 : q + 1 = k
      · rw [insF_lt (by omega), h2, insF_eq hkn]
        exact t_lt.mp (sp.1 q (by omega) (by omega))
      · by_cases h3 : q = k
        · rw [h3, insF_eq hkn, insF_gt (by omega) (by omega), show k + 1 - 1 = k by omega]
          have hkn : k < n := by omega
          have h4 := sp.2 (by omega)
          have h5 : ¬ (xs k).toInt < x.toInt := fun e => h4 (t_lt.mpr e)
          have h6 : ¬ (xs k).toInt = x.toInt := fun e => hne ⟨hkn, t_eq.mpr e⟩
          omega
        · rw [insF_gt (by omega) (by omega), insF_gt (by omega) (by omega), show q + 1 - 1 = (q - 1) + 1 by omega]
          exact h.2.2 (q - 1) (by omega)
theorem r400 {x : Int32} (h : 0 ≤ x ∧ x ≤ 400) : 0 ≤ x.toInt ∧ x.toInt ≤ 400 := ⟨t_le.mp h.1, t_le.mp h.2⟩
theorem TabOk_set {n k : Nat} {xs ys zs : Nat → Int32} {y : Int32} (h : TabOk n xs ys) (hy : 0 ≤ y.toInt ∧ y.toInt ≤ 400) (hz : ∀ q, zs q = if q = k then y else ys q) : TabOk n xs zs := by
  refine ⟨h.1, fun q hq => ?_, h.2.2⟩
  rw [hz q]
  by_cases e : q = k
  · rw [if_pos e]; have := h.2.1 q hq; exact ⟨this.1, this.2.1, hy.1, hy.2⟩
  · rw [if_neg e]; exact h.2.1 q hq
