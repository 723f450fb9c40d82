/-! MILLOF: where nothing is thrown -/
theorem millOf_q {σ : St} (L : Lay σ) {n d : Nat} (g : gM σ n d) (hd : gD σ d) {m : Nat} (hm : m < n) {w : Int32} (hw : 0 ≤ w ∧ w ≤ 7) : ∃ r, f11_millOf σ 1 (nI m) w = some (r, σ) ∧ f12_millOf σ 101 (nI m) w = some (r, wI σ 101 0 0) := by
  have L0 : Lay (wI σ 101 0 0) := Lay_wI L
  have n6 := g.ri.2.1
  have hb := lay_boat L (show m < 6 by omega)
  have ob6 := oboat L (show m < 6 by omega)
  have wv := g.ri.2.2 m hm
  have hh : 0 ≤ nI m ∧ nI m < sI σ 2 5 := ⟨nI_pos' (by omega), by rw [g.sz]; exact nI_lt hm (by omega)⟩
  have hn0 : sI (wI σ 101 0 0) 101 5 = nI n := by rw [sI_wk (by decide), g.ri.1]
  have h2 : 0 ≤ nI m ∧ nI m < sI (wI σ 101 0 0) 101 5 := ⟨hh.1, by rw [hn0, ← g.sz]; exact hh.2⟩
  have eo : ∀ a, a ≠ 101 → ∀ j, sI (wI σ 101 0 0) a j = sI σ a j := fun a ha j => sI_wo ha j
  have R : RiM σ (wI σ 101 0 0) n := RiM_tr g.ri (sI_wk (by decide)) (fun a k h1 h2 h3 => eo a (by omega) k)
  unfold f12_millOf
  rw [gd_t (oL101 L), lt_b, bd_s (isMillM_s L0), ite_B, if_pos h2, bd_s within_s, ite_B, if_pos hw]
  unfold f11_millOf
  rw [gd_t (oL1 L), lt_b, rL1_0 L, gd_t nz_s, gd_t (oL2 L), bd_s (has_s L), ite_B, if_pos hh, ck2 lt_nle, if_pos hw, lt_b, rL1_0 L, gd_t nz_s, gd_t (oL2 L), lt_b, rL2_2 L, gd_t nz_s, gd_t (oL5 L), gd_t (inb_n (lL5 L) (by omega) (by decide)), lt_b, ix_n (by omega), hb.1, gd_t (nz_t (by omega))]
  by_cases q0 : w = 0
  · rw [if_pos q0, if_pos q0]
    refine ⟨sI σ 6 m, ?_, ?_⟩
    · rw [lt_b, rL2_3 L, gd_t nz_s, gd_t (oL6 L), gd_t (inb_n (lL6 L) (by omega) (by decide))]
    · rw [lt_b, rL101_9 L0, gd_t nz_s, gd_t (oL109 L0), gd_t (inb_n (lL109 L0) (by omega) (by decide)), eo 109 (by decide), g.li m hm]
  rw [if_neg q0, if_neg q0]
  by_cases q1 : w = 1
  · rw [if_pos q1, if_pos q1]
    refine ⟨sI σ (29 + m) 0, ?_, ?_⟩
    · rw [gd_t ob6]
    · rw [lt_b, rL101_6 L0, gd_t nz_s, gd_t (oL106 L0), gd_t (inb_n (lL106 L0) (by omega) (by decide)), eo 106 (by decide), wv.1]
  rw [if_neg q1, if_neg q1]
  by_cases q2 : w = 2
  · rw [if_pos q2, if_pos q2]
    refine ⟨sI σ (29 + m) 1, ?_, ?_⟩
    · rw [gd_t ob6]
    · rw [lt_b, rL101_7 L0, gd_t nz_s, gd_t (oL107 L0), gd_t (inb_n (lL107 L0) (by omega) (by decide)), eo 107 (by decide), wv.2.1]
  rw [if_neg q2, if_neg q2]
  by_cases q3 : w = 3
  · rw [if_pos q3, if_pos q3]
    refine ⟨sI σ (29 + m) 2, ?_, ?_⟩
    · rw [gd_t ob6]
    · rw [lt_b, rL101_8 L0, gd_t nz_s, gd_t (oL108 L0), gd_t (inb_n (lL108 L0) (by omega) (by decide)), eo 108 (by decide), wv.2.2.1]
  rw [if_neg q3, if_neg q3]
  by_cases q4 : w = 4
  · rw [if_pos q4, if_pos q4]
    refine ⟨wrF (sI σ (29 + m) 3), ?_, ?_⟩
    · rw [gd_t ob6, bd_s (worn_s L (by omega))]
    · rw [bd_s (wornM_d L0 R hm)]
  rw [if_neg q4, if_neg q4]
  by_cases q5 : w = 5
  · rw [if_pos q5, if_pos q5]
    refine ⟨sI σ (29 + m) 4, ?_, ?_⟩
    · rw [gd_t ob6]
    · rw [lt_b, rL101_11 L0, gd_t nz_s, gd_t (oL111 L0), gd_t (inb_n (lL111 L0) (by omega) (by decide)), eo 111 (by decide), wv.2.2.2.2.1]
  rw [if_neg q5, if_neg q5]
  by_cases q6 : w = 6
  · rw [if_pos q6, if_pos q6]
    refine ⟨sI σ (29 + m) 5, ?_, ?_⟩
    · rw [gd_t ob6]
    · rw [lt_b, rL101_12 L0, gd_t nz_s, gd_t (oL112 L0), gd_t (inb_n (lL112 L0) (by omega) (by decide)), eo 112 (by decide), wv.2.2.2.2.2.1]
  rw [if_neg q6, if_neg q6, gd_t ob6, hd.1, lt_b, rL101_13 L0, gd_t nz_s, gd_t (oL113 L0), gd_t (inb_n (lL113 L0) (by omega) (by decide)), eo 113 (by decide), wv.2.2.2.2.2.2, sI_wk (j := 14) (by decide), hd.2.1]
  by_cases c : sI σ (29 + m) 6 = nI d
  · rw [if_pos c, if_pos c]; exact ⟨1, rfl, rfl⟩
  · rw [if_neg c, if_neg c]; exact ⟨0, rfl, rfl⟩
theorem millOf_n {σ : St} (L : Lay σ) {n : Nat} (hn : sI σ 101 5 = nI n) {m w : Int32} (h : ¬ ((0 ≤ m ∧ m < nI n) ∧ (0 ≤ w ∧ w ≤ 7))) : f12_millOf σ 101 m w = some (0, wI (wI σ 101 0 0) 101 0 1) := by
  have L0 : Lay (wI σ 101 0 0) := Lay_wI L
  have hn0 : sI (wI σ 101 0 0) 101 5 = nI n := by rw [sI_wk (by decide), hn]
  have e : f12_millOf_p23 (wI σ 101 0 0) 101 = some (0, wI (wI σ 101 0 0) 101 0 1) := by
    unfold f12_millOf_p23
    rw [gd_t (oL101 L0), lt_b]
  unfold f12_millOf
  rw [gd_t (oL101 L), lt_b, bd_s (isMillM_s L0), ite_B, hn0]
  by_cases h1 : 0 ≤ m ∧ m < nI n
  · rw [if_pos h1, bd_s within_s, ite_B, if_neg (fun q => h ⟨h1, q⟩), e]
  · rw [if_neg h1, e]
