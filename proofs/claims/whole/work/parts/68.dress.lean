/-! DRESS; FLOW, POWER, PULL -/
def gD (σ : St) (d : Nat) : Prop := sI σ 1 8 = nI d ∧ sI σ 101 14 = nI d ∧ d ≤ 999
theorem gD_Fr {W : Nat → Nat → Prop} {σ τ : St} {d : Nat} (h : Fr W σ τ) (L : Lay σ) (hw : ∀ a k, a = 1 ∧ k = 8 ∨ a = 101 ∧ k = 14 → ¬ W a k) (g : gD σ d) : gD τ d := by
  have hN := L.2.2
  exact ⟨by rw [Fr_i h (by omega) (hw 1 8 (by omega))]; exact g.1, by rw [Fr_i h (by omega) (hw 101 14 (by omega))]; exact g.2.1, g.2.2⟩
theorem gM_dat {σ τ : St} {n d e : Nat} (g : gM σ n d) (hF : ∀ a k, fpM a k → ¬ (29 ≤ a ∧ a ≤ 34 ∧ 3 ≤ k ∧ k ≤ 6) → ¬ (110 ≤ a ∧ a ≤ 113) → sI τ a k = sI σ a k)
    (h1 : ∀ m, m < n → sI τ 110 m = sI τ (29 + m) 3 ∧ sI τ 111 m = sI τ (29 + m) 4 ∧ sI τ 112 m = sI τ (29 + m) 5 ∧ sI τ 113 m = sI τ (29 + m) 6 ∧ 0 ≤ (sI τ (29 + m) 3).toInt ∧ (sI τ (29 + m) 3).toInt ≤ 400 * e)
    (h2 : ∀ m, n ≤ m → m < 6 → (∀ k, sI τ (29 + m) k = sI σ (29 + m) k) ∧ sI τ 110 m = sI σ 110 m ∧ sI τ 111 m = sI σ 111 m ∧ sI τ 112 m = sI σ 112 m) : gM τ n e := by
  have n6 := g.ri.2.1
  have eb : ∀ m k, m < 6 → k < 3 → sI τ (29 + m) k = sI σ (29 + m) k := fun m k hm hk => hF _ _ (by unfold fpM; omega) (by omega) (by omega)
  have er : ∀ a k, 106 ≤ a → a ≤ 109 → sI τ a k = sI σ a k := fun a k h1 h2 => hF _ _ (by unfold fpM; omega) (by omega) (by omega)
  have e6 : ∀ q, sI τ 6 q = sI σ 6 q := fun q => hF 6 q (by unfold fpM; omega) (by omega) (by omega)
  refine ⟨by rw [hF _ _ (by unfold fpM; omega) (by omega) (by omega)]; exact g.sz, ⟨by rw [hF _ _ (by unfold fpM; omega) (by omega) (by omega)]; exact g.ri.1, n6, fun m hm => ?_⟩, fun q hq => ?_, LO_congr (fun q _ => e6 q) g.lo, fun m hm => ?_, fun q h3 h4 => ?_, fun m hm => (h1 m hm).2.2.2.2⟩
  · have w := g.ri.2.2 m hm
    have v := h1 m hm
    refine ⟨?_, ?_, ?_, v.1, v.2.1, v.2.2.1, v.2.2.2.1⟩
    · rw [er 106 _ (by omega) (by omega), eb _ _ (by omega) (by omega)]; exact w.1
    · rw [er 107 _ (by omega) (by omega), eb _ _ (by omega) (by omega)]; exact w.2.1
    · rw [er 108 _ (by omega) (by omega), eb _ _ (by omega) (by omega)]; exact w.2.2.1
  · rw [er 109 q (by omega) (by omega), e6]; exact g.li q hq
  · rw [eb _ _ (by omega) (by omega), eb _ _ (by omega) (by omega), eb _ _ (by omega) (by omega)]; exact g.rg m hm
  · have v := h2 q h3 h4
    rw [v.1, v.1, v.1, v.1, e6, v.2.1, v.2.2.1, v.2.2.2]; exact g.nw q h3 h4
theorem dress_q {σ : St} (L : Lay σ) {n d : Nat} (g : gM σ n d) (hd : gD σ d) (m : Int32) : ∃ r σ1 τ, f11_dress σ 1 m = some (r, σ1) ∧ f12_dress σ1 101 m = some (r, τ) ∧ Fr Wmi σ τ ∧ gM τ n d := by
  have n6 := g.ri.2.1
  have fr0 : Fr Wmi σ (wI σ 101 0 0) := Fr_wI Fr_rf (Or.inl (Or.inl ⟨rfl, rfl⟩))
  have L0 : Lay (wI σ 101 0 0) := Lay_wI L
  by_cases h : 0 ≤ m ∧ m < sI σ 2 5
  · obtain ⟨k, hk, rfl⟩ := has_n L g h
    have hb := lay_boat L (show k < 6 by omega)
    have eC : f11_dress σ 1 (nI k) = if sI σ 6 k = -2 then some (0, σ) else if sI σ (29 + k) 6 = nI d then some (0, σ) else some (1, wI (wI σ (29 + k) 6 (nI d)) (29 + k) 3 0) := by
      unfold f11_dress
      rw [gd_t (oL1 L), lt_b, rL1_0 L, gd_t nz_s, gd_t (oL2 L), bd_s (has_s L), ite_B, if_pos h, lt_b, rL1_0 L, gd_t nz_s, gd_t (oL2 L), lt_b, rL2_3 L, gd_t nz_s, gd_t (oL6 L), gd_t (inb_n (lL6 L) (by omega) (by decide)), ix_n (by omega)]
      by_cases h1 : sI σ 6 k = -2
      · rw [if_pos h1, if_pos h1]
      · rw [if_neg h1, if_neg h1, lt_b, rL2_2 L, gd_t nz_s, gd_t (oL5 L), gd_t (inb_n (lL5 L) (by omega) (by decide)), lt_b, hb.1, gd_t (nz_t (by omega)), gd_t (oboat L (by omega)), hd.1]
        unfold f0_dressOn
        rw [gd_t (oboat L (by omega))]
        by_cases h2 : sI σ (29 + k) 6 = nI d
        · rw [if_pos h2, if_pos h2, bd_1]; rfl
        · rw [if_neg h2, if_neg h2, lt_b, lt_b, bd_1]; rfl
    have eM : ∀ σ1, Lay σ1 → sI σ1 101 5 = nI n → sI σ1 101 14 = nI d → f12_dress σ1 101 (nI k) = if sI σ1 109 k = -2 then some (0, wI σ1 101 0 0) else if sI σ1 113 k = nI d then some (0, wI σ1 101 0 0) else some (1, wI (wI (wI σ1 101 0 0) 113 k (nI d)) 110 k 0) := by
      intro σ1 L1 hn1 hd1
      have L10 : Lay (wI σ1 101 0 0) := Lay_wI L1
      unfold f12_dress
      rw [gd_t (oL101 L1), lt_b, bd_s (isMillM_s L10), ite_B, if_pos (⟨h.1, by rw [sI_wk (by decide), hn1, ← g.sz]; exact h.2⟩), lt_b, rL101_9 L10, gd_t nz_s, gd_t (oL109 L10), gd_t (inb_n (lL109 L10) (by omega) (by decide)), ix_n (by omega), sI_wo (b := 109) (by decide)]
      by_cases h1 : sI σ1 109 k = -2
      · rw [if_pos h1, if_pos h1]
      · have e14 : sI (wI σ1 101 0 0) 101 14 = nI d := by rw [sI_wk (by decide), hd1]
        rw [if_neg h1, if_neg h1, lt_b, rL101_13 L10, gd_t nz_s, gd_t (oL113 L10), gd_t (inb_n (lL113 L10) (by omega) (by decide)), e14, sI_wo (b := 113) (by decide)]
        by_cases h2 : sI σ1 113 k = nI d
        · rw [if_pos h2, if_pos h2]
        · have L11 : Lay (wI (wI σ1 101 0 0) 113 k (nI d)) := L10
          rw [if_neg h2, if_neg h2, lt_b, lt_b, rL101_10 L11, gd_t nz_s, gd_t (oL110 L11), gd_t (inb_n (lL110 L11) (by omega) (by decide)), lt_b]
    have w := g.ri.2.2 k hk
    by_cases h1 : sI σ 6 k = -2
    · exact ⟨0, σ, wI σ 101 0 0, by rw [eC, if_pos h1], by rw [eM σ L g.ri.1 hd.2.1, if_pos ((g.li k hk).trans h1)], fr0, gM0 L g⟩
    · by_cases h2 : sI σ (29 + k) 6 = nI d
      · exact ⟨0, σ, wI σ 101 0 0, by rw [eC, if_neg h1, if_pos h2], by rw [eM σ L g.ri.1 hd.2.1, if_neg (fun q => h1 ((g.li k hk).symm.trans q)), if_pos (w.2.2.2.2.2.2.trans h2)], fr0, gM0 L g⟩
      · refine ⟨1, wI (wI σ (29 + k) 6 (nI d)) (29 + k) 3 0, wI (wI (wI (wI (wI σ (29 + k) 6 (nI d)) (29 + k) 3 0) 101 0 0) 113 k (nI d)) 110 k 0, by rw [eC, if_neg h1, if_neg h2], ?_, ?_, ?_⟩
        · rw [eM _ (Lay_wI (Lay_wI L)) (by (repeat (first | rw [sI_w1] | rw [sI_wo (by omega)] | rw [sI_wk (by omega)])); exact g.ri.1) (by (repeat (first | rw [sI_w1] | rw [sI_wo (by omega)] | rw [sI_wk (by omega)])); exact hd.2.1), sI_wo (by omega), sI_wo (by omega), if_neg (fun q => h1 ((g.li k hk).symm.trans q)), sI_wo (b := 113) (by omega), sI_wo (b := 113) (by omega), if_neg (fun q => h2 (w.2.2.2.2.2.2.symm.trans q))]
        · refine Fr_wI (Fr_wI (Fr_wI (Fr_wI (Fr_wI Fr_rf ?_) ?_) ?_) ?_) ?_ <;> exact Or.inl (by unfold Wmi fpM; omega)
        · refine gM_dat g (fun a j q1 q2 q3 => ?_) (fun m hm => ?_) (fun m q1 q2 => ⟨fun j => ?_, ?_, ?_, ?_⟩)
          · unfold fpM at q1
            rw [sI_wo (by omega), sI_wo (by omega), sI_wI, if_neg (by omega), sI_wI, if_neg (by omega), sI_wI, if_neg (by omega)]
          · by_cases q : m = k
            · subst q
              refine ⟨?_, ?_, ?_, ?_, ?_, ?_⟩
              · repeat (first | rw [sI_w1] | rw [sI_wo (by omega)] | rw [sI_wk (by omega)])
              · repeat (first | rw [sI_w1] | rw [sI_wo (by omega)] | rw [sI_wk (by omega)])
                exact w.2.2.2.2.1
              · repeat (first | rw [sI_w1] | rw [sI_wo (by omega)] | rw [sI_wk (by omega)])
                exact w.2.2.2.2.2.1
              · repeat (first | rw [sI_w1] | rw [sI_wo (by omega)] | rw [sI_wk (by omega)])
              · repeat (first | rw [sI_w1] | rw [sI_wo (by omega)] | rw [sI_wk (by omega)])
                decide
              · repeat (first | rw [sI_w1] | rw [sI_wo (by omega)] | rw [sI_wk (by omega)])
                show (0 : Int) ≤ _
                omega
            · have v := g.ri.2.2 m hm
              have v2 := g.wr m hm
              repeat (first | rw [sI_w1] | rw [sI_wo (by omega)] | rw [sI_wk (by omega)])
              exact ⟨v.2.2.2.1, v.2.2.2.2.1, v.2.2.2.2.2.1, v.2.2.2.2.2.2, v2⟩
          · repeat (first | rw [sI_w1] | rw [sI_wo (by omega)] | rw [sI_wk (by omega)])
          · repeat (first | rw [sI_w1] | rw [sI_wo (by omega)] | rw [sI_wk (by omega)])
          · repeat (first | rw [sI_w1] | rw [sI_wo (by omega)] | rw [sI_wk (by omega)])
          · repeat (first | rw [sI_w1] | rw [sI_wo (by omega)] | rw [sI_wk (by omega)])
  · refine ⟨0, σ, wI σ 101 0 0, ?_, ?_, fr0, gM0 L g⟩
    · unfold f11_dress
      rw [gd_t (oL1 L), lt_b, rL1_0 L, gd_t nz_s, gd_t (oL2 L), bd_s (has_s L), ite_B, if_neg h]
    · unfold f12_dress
      rw [gd_t (oL101 L), lt_b, bd_s (isMillM_s L0), ite_B, if_neg (by rw [sI_wk (by decide), g.ri.1, ← g.sz]; exact h)]
