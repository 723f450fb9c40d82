/-! POINT: a row moved up from k to j with v put at k -/
def insF (f : Nat → Int32) (k j : Nat) (v : Int32) (q : Nat) : Int32 := if q < k ∨ j < q then f q else if q = k then v else f (q - 1)
theorem insF_step {f g : Nat → Int32} {k d : Nat} {v : Int32} (h : ∀ q, g q = if q = k + (d + 1) then f (k + (d + 1) - 1) else f q) (q : Nat) : insF g k (k + d) v q = insF f k (k + (d + 1)) v q := by
  unfold insF
  rw [h q, h (q - 1)]
  by_cases h1 : q < k
  · rw [if_pos (Or.inl h1), if_pos (Or.inl h1), if_neg (by omega)]
  · by_cases h2 : q = k
    · rw [if_neg (by omega), if_pos h2, if_neg (by omega), if_pos h2]
    · by_cases h3 : k + d < q
      · rw [if_pos (Or.inr h3)]
        by_cases h4 : q = k + (d + 1)
        · rw [if_pos h4, if_neg (by omega), if_neg h2, h4]
        · rw [if_neg h4, if_pos (Or.inr (by omega))]
      · rw [if_neg (by omega), if_neg h2, if_neg (by omega), if_neg (by omega), if_neg h2]
def Wpt (t a k : Nat) : Prop := a = 9 + 3 * t ∨ a = 10 + 3 * t ∨ a = 8 + 3 * t ∧ k = 2
theorem tabs {σ : St} (L : Lay σ) {t : Nat} (ht : t < 7) : ob σ (8 + 3 * t) 9 = true ∧ ob σ (9 + 3 * t) 14 = true ∧ ob σ (10 + 3 * t) 14 = true ∧ (sK σ (9 + 3 * t)).2 = 8 ∧ (sK σ (10 + 3 * t)).2 = 8 ∧ sR σ (8 + 3 * t) 0 = 9 + 3 * t ∧ sR σ (8 + 3 * t) 1 = 10 + 3 * t := by
  obtain ⟨-, k1, k2, k3, r1, r2⟩ := lay_tab L ht
  exact ⟨ob_l L (by omega) (by omega) (by rw [k1]), ob_l L (by omega) (by omega) (by rw [k2]), ob_l L (by omega) (by omega) (by rw [k3]), by rw [k2], by rw [k3], r1, r2⟩
theorem put94 {t : Nat} (ht : t < 7) (x y : Int32) {k : Nat} : ∀ (d fuel : Nat) (σ : St), Lay σ → k + d < 8 → d < fuel →
    ∃ τ, f9_put_p94 fuel σ (8 + 3 * t) x y (nI k) (nI (k + d)) = some (1, τ) ∧ Fr (Wpt t) σ τ ∧ (∀ q, sI τ (9 + 3 * t) q = insF (sI σ (9 + 3 * t)) k (k + d) x q) ∧ (∀ q, sI τ (10 + 3 * t) q = insF (sI σ (10 + 3 * t)) k (k + d) y q) ∧ sI τ (8 + 3 * t) 2 = sI σ (8 + 3 * t) 2 + 1 := by
  intro d
  induction d with
  | zero =>
    intro fuel σ L hk hf
    obtain ⟨f, rfl, -⟩ := suc_of hf
    obtain ⟨o1, o2, o3, l2, l3, r1, r2⟩ := tabs L ht
    refine ⟨wI (wI (wI σ (9 + 3 * t) k x) (10 + 3 * t) k y) (8 + 3 * t) 2 (sI σ (8 + 3 * t) 2 + 1), ?_, ?_, ?_, ?_, ?_⟩
    · have e8 : sI (wI (wI σ (9 + 3 * t) k x) (10 + 3 * t) k y) (8 + 3 * t) 2 = sI σ (8 + 3 * t) 2 := by rw [sI_wI, if_neg (by omega), sI_wI, if_neg (by omega)]
      rw [f9_put_p94, if_pos (nI_le (by omega) (by omega)), gd_t o1, lt_b, r1, gd_t (nz_t (by omega)), gd_t o2, gd_t (inb_n l2 (by omega) (by decide)), lt_b, lt_b, ix_n (by omega), sR_wI, r2, gd_t (nz_t (by omega)), gd_t (show ob (wI σ (9 + 3 * t) k x) (10 + 3 * t) 14 = true from o3), gd_t (inb_n (σ := wI σ (9 + 3 * t) k x) l3 (by omega) (by decide)), lt_b, lt_b, e8]
    · exact Fr_wI (Fr_wI (Fr_wI Fr_rf (Or.inl (Or.inl rfl))) (Or.inl (Or.inr (Or.inl rfl)))) (Or.inl (Or.inr (Or.inr ⟨rfl, rfl⟩)))
    · intro q
      rw [sI_wI, if_neg (by omega), sI_wI, if_neg (by omega), sI_wI]
      unfold insF
      by_cases h : q = k
      · rw [if_pos ⟨rfl, h⟩, if_neg (by omega), if_pos h]
      · rw [if_neg (by omega), if_pos (by omega)]
    · intro q
      rw [sI_wI, if_neg (by omega), sI_wI]
      unfold insF
      by_cases h : q = k
      · rw [if_pos ⟨rfl, h⟩, if_neg (by omega), if_pos h]
      · rw [if_neg (by omega), if_pos (by omega), sI_wI, if_neg (by omega)]
    · rw [sI_wI, if_pos ⟨rfl, rfl⟩]
  | succ d ih =>
    intro fuel σ L hk hf
    obtain ⟨f, rfl, hf2⟩ := suc_of hf
    obtain ⟨o1, o2, o3, l2, l3, r1, r2⟩ := tabs L ht
    have em : nI (k + (d + 1)) - 1 = nI (k + d) := nI_pred (k + d)
    have em2 : nI (k + (d + 1)) + -1 = nI (k + d) := pk_m1 (k + d)
    obtain ⟨τ, e1, e2, e3, e4, e5⟩ := ih f (wI (wI σ (9 + 3 * t) (k + (d + 1)) (sI σ (9 + 3 * t) (k + d))) (10 + 3 * t) (k + (d + 1)) (sI σ (10 + 3 * t) (k + d))) (Lay_wI (Lay_wI L)) (by omega) (by omega)
    have e10 : sI (wI σ (9 + 3 * t) (k + (d + 1)) (sI σ (9 + 3 * t) (k + d))) (10 + 3 * t) (k + d) = sI σ (10 + 3 * t) (k + d) := by rw [sI_wI, if_neg (by omega)]
    refine ⟨τ, ?_, ?_, ?_, ?_, ?_⟩
    · rw [f9_put_p94, if_neg (fun q => by have := (nI_leI (by omega) (by omega)).mp q; omega), gd_t o1, lt_b, r1, gd_t (nz_t (by omega)), gd_t o2, em, em2, gd_t (inb_n l2 (by omega) (by decide)), gd_t (inb_n l2 (by omega) (by decide)), lt_b, lt_b, ix_n (k := k + d) (by omega), ix_n (k := k + (d + 1)) (by omega), sR_wI, r2, gd_t (nz_t (by omega)), gd_t (show ob (wI σ (9 + 3 * t) (k + (d + 1)) _) (10 + 3 * t) 14 = true from o3), gd_t (inb_n (σ := wI σ (9 + 3 * t) (k + (d + 1)) _) l3 (by omega) (by decide)), gd_t (inb_n (σ := wI σ (9 + 3 * t) (k + (d + 1)) _) l3 (by omega) (by decide)), lt_b, lt_b, e10]
      exact e1
    · exact Fr_tr (Fr_wI (Fr_wI Fr_rf (Or.inl (Or.inl rfl))) (Or.inl (Or.inr (Or.inl rfl)))) e2
    · intro q
      rw [e3 q]
      exact insF_step (fun q => by rw [sI_wI, if_neg (by omega), sI_wI]; by_cases h : q = k + (d + 1) <;> simp [h]) q
    · intro q
      rw [e4 q]
      exact insF_step (fun q => by rw [sI_wI]; by_cases h : q = k + (d + 1) <;> simp [h, sI_wI] <;> intro h <;> omega) q
    · rw [e5, sI_wI, if_neg (by omega), sI_wI, if_neg (by omega)]
