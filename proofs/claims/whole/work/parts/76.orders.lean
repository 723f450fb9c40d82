/-! SKIFFS, Orepeat (first | rw [sI_w1] | rw [sI_wo (by omega)] | rw [sI_wk (by omega)])ERS, EVENTS told -/
def gS (σ : St) : Prop := ∀ s, s < 2 → sI σ 137 s = sI σ 71 s ∧ 0 ≤ (sI σ 71 s).toInt ∧ (sI σ 71 s).toInt ≤ 20
theorem gS_Fr {W : Nat → Nat → Prop} {σ τ : St} (h : Fr W σ τ) (L : Lay σ) (hw : ∀ a k, a = 71 ∨ a = 137 → ¬ W a k) (g : gS σ) : gS τ := by
  have hN := L.2.2
  intro s hs
  rw [Fr_i h (by omega) (hw 137 s (by omega)), Fr_i h (by omega) (hw 71 s (by omega))]
  exact g s hs
theorem skiffs_q {σ : St} (L : Lay σ) (g : gS σ) (s n : Int32) : ∃ r σ1 τ, f11_skiffs σ 1 s n = some (r, σ1) ∧ f12_skiffs σ1 101 s n = some (r, τ) ∧ Fr (fun a k => a = 101 ∧ k = 0 ∨ a = 71 ∨ a = 137) σ τ ∧ gS τ := by
  have fr0 : Fr (fun a k => a = 101 ∧ k = 0 ∨ a = 71 ∨ a = 137) σ (wI σ 101 0 0) := Fr_wI Fr_rf (Or.inl (Or.inl ⟨rfl, rfl⟩))
  have g0 : gS (wI σ 101 0 0) := gS_Fr Fr0 L (fun a k h q => by unfold W0 at q; omega) g
  have eM : ∀ σ1, Lay σ1 → f12_skiffs σ1 101 s n = if (0 ≤ s ∧ s < 2) ∧ (0 ≤ n ∧ n ≤ 20) then some (1, wI (wI σ1 101 0 0) 137 (ix s) n) else some (0, wI σ1 101 0 0) := by
    intro σ1 L1
    have L0 : Lay (wI σ1 101 0 0) := Lay_wI L1
    unfold f12_skiffs
    rw [gd_t (oL101 L1), lt_b, bd_s within_s, ite_B, bd_s within_s, ite_B]
    simp only [le_lt (x := s) (a := 1) (b := 2) rfl]
    by_cases h1 : 0 ≤ s ∧ s < 2
    · by_cases h2 : 0 ≤ n ∧ n ≤ 20
      · obtain ⟨c, hc, rfl⟩ := inN (lim := 2) rfl (by decide) h1
        rw [if_pos h1, if_pos h2, if_pos ⟨h1, h2⟩, lt_b, rL101_53 L0, gd_t nz_s, gd_t (oL137 L0), gd_t (inb_n (lL137 L0) hc (by decide)), lt_b]
      · rw [if_pos h1, if_neg h2, if_neg (fun q => h2 q.2)]
    · rw [if_neg h1, if_neg (fun q => h1 q.1)]
  have eC : f11_skiffs σ 1 s n = if (0 ≤ s ∧ s < 2) ∧ (0 ≤ n ∧ n ≤ 20) then some (1, wI σ 71 (ix s) n) else some (0, σ) := by
    unfold f11_skiffs
    rw [bd_s isShore_s, ite_B, ck2 lt_nle]
    by_cases h1 : 0 ≤ s ∧ s < 2
    · by_cases h2 : 0 ≤ n ∧ n ≤ 20
      · obtain ⟨c, hc, rfl⟩ := inN (lim := 2) rfl (by decide) h1
        rw [if_pos h1, if_pos h2, if_pos ⟨h1, h2⟩, gd_t (oL1 L), lt_b, rL1_3 L, gd_t nz_s, gd_t (oL70 L), lt_b, rL70_2 L, gd_t nz_s, gd_t (oL71 L), gd_t (inb_n (lL71 L) hc (by decide)), lt_b]
      · rw [if_pos h1, if_neg h2, if_neg (fun q => h2 q.2)]
    · rw [if_neg h1, if_neg (fun q => h1 q.1)]
  by_cases h : (0 ≤ s ∧ s < 2) ∧ (0 ≤ n ∧ n ≤ 20)
  · obtain ⟨c, hc, rfl⟩ := inN (lim := 2) rfl (by decide) h.1
    rw [ix_n (by omega)] at eC eM
    refine ⟨1, wI σ 71 c n, wI (wI (wI σ 71 c n) 101 0 0) 137 c n, by rw [eC, if_pos h], by rw [eM _ (Lay_wI L), if_pos h], ?_, fun i hi => ?_⟩
    · refine Fr_wI (Fr_wI (Fr_wI Fr_rf ?_) ?_) ?_ <;> exact Or.inl (by omega)
    · by_cases q : i = c
      · subst q
        have r := rng h.2
        repeat (first | rw [sI_w1] | rw [sI_wo (by omega)] | rw [sI_wk (by omega)])
        exact ⟨rfl, r⟩
      · have w := g i hi
        repeat (first | rw [sI_w1] | rw [sI_wo (by omega)] | rw [sI_wk (by omega)])
        exact w
  · exact ⟨0, σ, wI σ 101 0 0, by rw [eC, if_neg h], by rw [eM _ L, if_neg h], fr0, g0⟩
/-- orders -/
def gO (σ : St) (o : Nat) : Prop := o ≤ 60 ∧ (sI σ 70 9 = nI o ∧ sI σ 101 55 = nI o) ∧ (∀ i, i < o → (sI σ 139 i = sI σ 73 i ∧ sI σ 140 i = sI σ 74 i ∧ sI σ 141 i = sI σ 75 i ∧ sI σ 142 i = sI σ 76 i ∧ sI σ 143 i = sI σ 77 i) ∧ (sI σ 73 i = 0 ∨ sI σ 73 i = 1) ∧ (0 ≤ (sI σ 75 i).toInt ∧ (sI σ 75 i).toInt ≤ 500) ∧ (sI σ 75 i ≠ 0 → sI σ 77 i = -1)) ∧ ∀ i, o ≤ i → i < 60 → sI σ 76 i = 0
def fpO (a k : Nat) : Prop := 73 ≤ a ∧ a ≤ 77 ∨ 139 ≤ a ∧ a ≤ 143 ∨ a = 70 ∧ k = 9 ∨ a = 101 ∧ k = 55
theorem gO_Fr {W : Nat → Nat → Prop} {σ τ : St} {o : Nat} (h : Fr W σ τ) (L : Lay σ) (hw : ∀ a k, fpO a k → ¬ W a k) (g : gO σ o) : gO τ o := by
  have hN := L.2.2
  have e : ∀ a k, fpO a k → sI τ a k = sI σ a k := fun a k q => Fr_i h (by unfold fpO at q; omega) (hw a k q)
  refine ⟨g.1, ⟨by rw [e 70 9 (by unfold fpO; omega)]; exact g.2.1.1, by rw [e 101 55 (by unfold fpO; omega)]; exact g.2.1.2⟩, fun i hi => ?_, fun i h1 h2 => ?_⟩
  · rw [e 73 _ (by unfold fpO; omega), e 74 _ (by unfold fpO; omega), e 75 _ (by unfold fpO; omega), e 76 _ (by unfold fpO; omega), e 77 _ (by unfold fpO; omega), e 139 _ (by unfold fpO; omega), e 140 _ (by unfold fpO; omega), e 141 _ (by unfold fpO; omega), e 142 _ (by unfold fpO; omega), e 143 _ (by unfold fpO; omega)]
    exact g.2.2.1 i hi
  · rw [e 76 _ (by unfold fpO; omega)]; exact g.2.2.2 i h1 h2
theorem gO0 {σ : St} (L : Lay σ) {o : Nat} (g : gO σ o) : gO (wI σ 101 0 0) o := gO_Fr Fr0 L (fun a k h q => by unfold fpO at h; unfold W0 at q; omega) g
theorem orderOf_q {σ : St} (L : Lay σ) {o : Nat} (g : gO σ o) (i w : Int32) : ∃ r, f11_orderOf σ 1 i w = some (r, σ) ∧ f12_orderOf σ 101 i w = some (r, wI σ 101 0 0) := by
  have L0 : Lay (wI σ 101 0 0) := Lay_wI L
  have go := g.1
  unfold f11_orderOf f12_orderOf f3_told
  rw [gd_t (oL1 L), lt_b, rL1_3 L, gd_t nz_s, gd_t (oL70 L), gd_t (oL70 L), gd_t (oL101 L), g.2.1.1]
  show ∃ r, _ ∧ (if i < 0 then _ else if i < sI (wI σ 101 0 0) 101 55 then _ else _) = _
  rw [sI_wk (by decide), g.2.1.2]
  by_cases h0 : i < 0
  · rw [if_pos h0, if_pos h0]; exact ⟨_, rfl, rfl⟩
  · rw [if_neg h0, if_neg h0]
    by_cases h1 : i < nI o
    · obtain ⟨c, hc, rfl⟩ := inN rfl (by omega) (⟨Int32.not_lt.mp h0, h1⟩ : 0 ≤ i ∧ i < nI o)
      have w5 := (g.2.2.1 c hc).1
      rw [if_pos h1, if_pos h1]
      by_cases q0 : w = 0
      · rw [if_pos q0, if_pos q0]
        refine ⟨sI σ 73 c, ?_, ?_⟩
        · rw [lt_b, rL70_4 L, gd_t nz_s, gd_t (oL73 L), gd_t (inb_n (lL73 L) (by omega) (by decide)), ix_n (by omega)]; rfl
        · rw [lt_b, rL101_56 L0, gd_t nz_s, gd_t (oL139 L0), gd_t (inb_n (lL139 L0) (by omega) (by decide)), ix_n (by omega), sI_wo (by decide), w5.1]
      · rw [if_neg q0, if_neg q0]
        by_cases q1 : w = 1
        · rw [if_pos q1, if_pos q1]
          refine ⟨sI σ 74 c, ?_, ?_⟩
          · rw [lt_b, rL70_5 L, gd_t nz_s, gd_t (oL74 L), gd_t (inb_n (lL74 L) (by omega) (by decide)), ix_n (by omega)]; rfl
          · rw [lt_b, rL101_57 L0, gd_t nz_s, gd_t (oL140 L0), gd_t (inb_n (lL140 L0) (by omega) (by decide)), ix_n (by omega), sI_wo (by decide), w5.2.1]
        · rw [if_neg q1, if_neg q1]
          by_cases q2 : w = 2
          · rw [if_pos q2, if_pos q2]
            refine ⟨sI σ 75 c, ?_, ?_⟩
            · rw [lt_b, rL70_6 L, gd_t nz_s, gd_t (oL75 L), gd_t (inb_n (lL75 L) (by omega) (by decide)), ix_n (by omega)]; rfl
            · rw [lt_b, rL101_58 L0, gd_t nz_s, gd_t (oL141 L0), gd_t (inb_n (lL141 L0) (by omega) (by decide)), ix_n (by omega), sI_wo (by decide), w5.2.2.1]
          · rw [if_neg q2, if_neg q2]
            by_cases q3 : w = 3
            · rw [if_pos q3, if_pos q3]
              refine ⟨sI σ 76 c, ?_, ?_⟩
              · rw [lt_b, rL70_7 L, gd_t nz_s, gd_t (oL76 L), gd_t (inb_n (lL76 L) (by omega) (by decide)), ix_n (by omega)]; rfl
              · rw [lt_b, rL101_59 L0, gd_t nz_s, gd_t (oL142 L0), gd_t (inb_n (lL142 L0) (by omega) (by decide)), ix_n (by omega), sI_wo (by decide), w5.2.2.2.1]
            · rw [if_neg q3, if_neg q3]
              by_cases q4 : w = 4
              · rw [if_pos q4, if_pos q4]
                refine ⟨sI σ 77 c, ?_, ?_⟩
                · rw [lt_b, rL70_8 L, gd_t nz_s, gd_t (oL77 L), gd_t (inb_n (lL77 L) (by omega) (by decide)), ix_n (by omega)]; rfl
                · rw [lt_b, rL101_60 L0, gd_t nz_s, gd_t (oL143 L0), gd_t (inb_n (lL143 L0) (by omega) (by decide)), ix_n (by omega), sI_wo (by decide), w5.2.2.2.2]
              · rw [if_neg q4, if_neg q4]; exact ⟨_, rfl, rfl⟩
    · rw [if_neg h1, if_neg h1]; exact ⟨_, rfl, rfl⟩
