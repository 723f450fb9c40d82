theorem insF_st2 {f g : Nat → Int32} {k j : Nat} {v : Int32} (hk : k ≤ j) (h : ∀ q, g q = if q = j + 1 then f j else f q) (q : Nat) : insF g k j v q = insF f k (j + 1) v q := by
  obtain ⟨d, rfl⟩ : ∃ d, j = k + d := ⟨j - k, by omega⟩
  exact insF_step (k := k) (d := d) (fun q => h q) q
theorem put26 {σ : St} (L : Lay σ) {t n : Nat} {x y : Int32} (ht : t < 7) (hn : sI σ (8 + 3 * t) 2 = nI n) (h8 : n ≤ 8) : ∀ (j k fuel : Nat), k + j = n → j < fuel →
    f9_put_p26 fuel σ (8 + 3 * t) x y (nI k) = f9_put_p50 σ (8 + 3 * t) x y (nI (fiF (sI σ (9 + 3 * t)) x j k)) := by
  obtain ⟨o1, o2, o3, l2, l3, r1, r2⟩ := tabs L ht
  intro j
  induction j with
  | zero =>
    intro k fuel hm hf
    obtain ⟨f, rfl, -⟩ := suc_of hf
    rw [f9_put_p26, gd_t o1, hn, if_neg (nI_nlt (by omega) (by omega))]
    rfl
  | succ j ih =>
    intro k fuel hm hf
    obtain ⟨f, rfl, hf2⟩ := suc_of hf
    rw [f9_put_p26, gd_t o1, hn, if_pos (nI_lt (by omega) (by omega)), lt_b, r1, gd_t (nz_t (by omega)), gd_t o2, gd_t (inb_n l2 (by omega) (by decide)), ix_n (by omega)]
    unfold fiF
    by_cases h : sI σ (9 + 3 * t) k < x
    · rw [if_pos h, if_pos h, lt_b, nI_1]
      exact ih (k + 1) f (by omega) (by omega)
    · rw [if_neg h, if_neg h]
theorem put77 {σ : St} (L : Lay σ) {t n : Nat} {x y : Int32} {k : Int32} (ht : t < 7) (hn : sI σ (8 + 3 * t) 2 = nI n) (h8 : n ≤ 8) :
    f9_put_p77 σ (8 + 3 * t) x y k = if n < 8 then f9_put_p94 FU σ (8 + 3 * t) x y k (nI n) else some (0, σ) := by
  obtain ⟨o1, o2, o3, l2, l3, r1, r2⟩ := tabs L ht
  unfold f9_put_p77
  rw [gd_t o1, hn]
  by_cases h : n < 8
  · rw [if_pos h, if_pos (show nI n < 8 from nI_lt (b := 8) h (by omega)), lt_b]
  · rw [if_neg h, if_neg (show ¬ nI n < 8 from nI_nlt (b := 8) (by omega) (by omega))]
theorem put_s {σ : St} (L : Lay σ) {t n k : Nat} {x y : Int32} (ht : t < 7) (hn : sI σ (8 + 3 * t) 2 = nI n) (h8 : n ≤ 8) (hk : k = fiF (sI σ (9 + 3 * t)) x n 0) :
    f9_put σ (8 + 3 * t) x y = if (0 ≤ x ∧ x ≤ 400) ∧ (0 ≤ y ∧ y ≤ 400) then (if k < n ∧ sI σ (9 + 3 * t) k = x then some (1, wI σ (10 + 3 * t) k y) else if n < 8 then f9_put_p94 FU σ (8 + 3 * t) x y (nI k) (nI n) else some (0, σ)) else some (0, σ) := by
  obtain ⟨o1, o2, o3, l2, l3, r1, r2⟩ := tabs L ht
  have hkn : k ≤ n := by rw [hk]; have := fiF_le (xs := sI σ (9 + 3 * t)) (x := x) n 0; omega
  unfold f9_put
  rw [ck2 lt_nle]
  by_cases hx : 0 ≤ x ∧ x ≤ 400
  · rw [if_pos hx, ck2 lt_nle]
    by_cases hy : 0 ≤ y ∧ y ≤ 400
    · rw [if_pos hy, if_pos ⟨hx, hy⟩, ← nI_0, put26 L ht hn h8 n 0 FU (by omega) (by unfold FU; omega), ← hk]
      unfold f9_put_p50
      rw [gd_t o1, hn]
      by_cases h : k < n
      · rw [if_pos (nI_lt h (by omega)), lt_b, r1, gd_t (nz_t (by omega)), gd_t o2, gd_t (inb_n l2 (by omega) (by decide)), ix_n (by omega)]
        by_cases g : sI σ (9 + 3 * t) k = x
        · rw [if_pos g, if_pos ⟨h, g⟩, lt_b, r2, gd_t (nz_t (by omega)), gd_t o3, gd_t (inb_n l3 (by omega) (by decide)), lt_b]
        · rw [if_neg g, if_neg (fun q => g q.2), put77 L ht hn h8]
          rfl
      · rw [if_neg (nI_nlt (by omega) (by omega)), if_neg (fun q => h q.1), put77 L ht hn h8]
        rfl
    · rw [if_neg hy, if_neg (fun q => hy q.2)]
  · rw [if_neg hx, if_neg (fun q => hx q.1)]
/-- the reference's row of all tables -/
def Wq (t a k : Nat) : Prop := a = 104 ∨ a = 105 ∨ a = 103 ∧ k = t
theorem pm209 {σ : St} (L : Lay σ) {t k : Nat} {x y : Int32} (ht : t < 7) (hk : k < 8) : f12_point_p209 σ 101 x y (nI (8 * t)) (nI k) = some (1, wI (wI σ 104 (8 * t + k) x) 105 (8 * t + k) y) := by
  unfold f12_point_p209
  rw [nI_add, gd_t (oL101 L), lt_b, rL101_3 L, gd_t nz_s, gd_t (oL104 L), gd_t (inb_n (lL104 L) (by omega) (by decide)), lt_b, lt_b, ix_n (by omega), sR_wI, rL101_4 L, gd_t nz_s, gd_t (show ob (wI σ 104 (8 * t + k) x) 105 14 = true from oL105 L), gd_t (inb_n (σ := wI σ 104 (8 * t + k) x) (lL105 L) (by omega) (by decide)), lt_b]
theorem pm142 {t : Nat} (ht : t < 7) (x y : Int32) {k : Nat} : ∀ (d fuel : Nat) (σ : St), Lay σ → k + d < 8 → d < fuel →
    ∃ τ, f12_point_p142 fuel σ 101 (nI t) x y (nI (8 * t)) (nI k) (nI (k + d)) = some (1, τ) ∧ Fr (Wq t) σ τ ∧ (∀ q, sI τ 104 q = insF (sI σ 104) (8 * t + k) (8 * t + (k + d)) x q) ∧ (∀ q, sI τ 105 q = insF (sI σ 105) (8 * t + k) (8 * t + (k + d)) y q) ∧ sI τ 103 t = sI σ 103 t + 1 := by
  intro d
  induction d with
  | zero =>
    intro fuel σ L hk hf
    obtain ⟨f, rfl, -⟩ := suc_of hf
    refine ⟨wI (wI (wI σ 103 t (sI σ 103 t + 1)) 104 (8 * t + k) x) 105 (8 * t + k) y, ?_, ?_, ?_, ?_, ?_⟩
    · rw [f12_point_p142, if_pos (nI_le (by omega) (by omega)), gd_t (oL101 L), lt_b, rL101_2 L, gd_t nz_s, gd_t (oL103 L), gd_t (inb_n (lL103 L) ht (by decide)), lt_b, ix_n (by omega), pm209 (Lay_wI L) ht (by omega)]
    · exact Fr_wI (Fr_wI (Fr_wI Fr_rf (Or.inl (Or.inr (Or.inr ⟨rfl, rfl⟩)))) (Or.inl (Or.inl rfl))) (Or.inl (Or.inr (Or.inl rfl)))
    · intro q
      rw [sI_wI, if_neg (by omega), sI_wI]
      unfold insF
      by_cases h : q = 8 * t + k
      · rw [if_pos ⟨rfl, h⟩, if_neg (by omega), if_pos h]
      · rw [if_neg (by omega), if_pos (by omega), sI_wI, if_neg (by omega)]
    · intro q
      rw [sI_wI]
      unfold insF
      by_cases h : q = 8 * t + k
      · rw [if_pos ⟨rfl, h⟩, if_neg (by omega), if_pos h]
      · rw [if_neg (by omega), if_pos (by omega), sI_wI, if_neg (by omega), sI_wI, if_neg (by omega)]
    · rw [sI_wI, if_neg (by omega), sI_wI, if_neg (by omega), sI_wI, if_pos ⟨rfl, rfl⟩]
  | succ d ih =>
    intro fuel σ L hk hf
    obtain ⟨f, rfl, hf2⟩ := suc_of hf
    have em2 : nI (k + (d + 1)) + -1 = nI (k + d) := pk_m1 (k + d)
    have em : nI (8 * t + (k + (d + 1))) - 1 = nI (8 * t + (k + d)) := nI_pred (8 * t + (k + d))
    obtain ⟨τ, e1, e2, e3, e4, e5⟩ := ih f (wI (wI σ 104 (8 * t + (k + (d + 1))) (sI σ 104 (8 * t + (k + d)))) 105 (8 * t + (k + (d + 1))) (sI σ 105 (8 * t + (k + d)))) (Lay_wI (Lay_wI L)) (by omega) (by omega)
    have e10 : sI (wI σ 104 (8 * t + (k + (d + 1))) (sI σ 104 (8 * t + (k + d)))) 105 (8 * t + (k + d)) = sI σ 105 (8 * t + (k + d)) := by rw [sI_wI, if_neg (by omega)]
    refine ⟨τ, ?_, ?_, ?_, ?_, ?_⟩
    · rw [f12_point_p142, if_neg (fun q => by have := (nI_leI (by omega) (by omega)).mp q; omega), gd_t (oL101 L), lt_b, rL101_3 L, gd_t nz_s, gd_t (oL104 L), nI_add, em, em2, gd_t (inb_n (lL104 L) (by omega) (by decide)), gd_t (inb_n (lL104 L) (by omega) (by decide)), lt_b, lt_b, ix_n (k := 8 * t + (k + d)) (by omega), ix_n (k := 8 * t + (k + (d + 1))) (by omega), sR_wI, rL101_4 L, gd_t nz_s, gd_t (show ob (wI σ 104 (8 * t + (k + (d + 1))) _) 105 14 = true from oL105 L), gd_t (inb_n (σ := wI σ 104 (8 * t + (k + (d + 1))) _) (lL105 L) (by omega) (by decide)), gd_t (inb_n (σ := wI σ 104 (8 * t + (k + (d + 1))) _) (lL105 L) (by omega) (by decide)), lt_b, lt_b, e10]
      exact e1
    · exact Fr_tr (Fr_wI (Fr_wI Fr_rf (Or.inl (Or.inl rfl))) (Or.inl (Or.inr (Or.inl rfl)))) e2
    · intro q
      rw [e3 q]
      exact insF_st2 (k := 8 * t + k) (j := 8 * t + (k + d)) (f := sI σ 104) (by omega) (fun q => by rw [sI_wo (by decide), sI_ws]; rfl) q
    · intro q
      rw [e4 q]
      exact insF_st2 (k := 8 * t + k) (j := 8 * t + (k + d)) (f := sI σ 105) (by omega) (fun q => by rw [sI_ws, sI_wo (by decide)]; rfl) q
    · rw [e5, sI_wI, if_neg (by omega), sI_wI, if_neg (by omega)]
