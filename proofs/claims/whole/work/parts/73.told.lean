/-! HEIGHT, ICE, HEIGHTOF, ICEOF -/
def gKK (σ : St) (p q : Nat) : Prop := gK σ p q ∧ RiK σ σ p q
theorem gKK_Fr {W : Nat → Nat → Prop} {σ τ : St} {p q : Nat} (h : Fr W σ τ) (L : Lay σ) (hw : ∀ a k, fpK a k → ¬ W a k) (g : gKK σ p q) : gKK τ p q :=
  ⟨gK_Fr h L (fun a k h1 h2 => hw a k (by unfold fpK; omega)) g.1, RiK_Fd h L (fun a k h1 h2 => hw a k (by unfold fpK; omega)) (RiK_Fr h L (fun a k h1 => hw a k (by unfold fpK; omega)) g.2)⟩
def Wbk (a k : Nat) : Prop := a = 101 ∧ k = 0 ∨ fpK a k
theorem gKK0 {σ : St} (L : Lay σ) {p q : Nat} (g : gKK σ p q) : gKK (wI σ 101 0 0) p q := gKK_Fr Fr0 L (fun a k h q => by unfold fpK at h; unfold W0 at q; omega) g
theorem heightOf_q {σ : St} (L : Lay σ) {e p q : Nat} (hd : gD σ e) (g : gKK σ p q) (d k : Int32) : ∃ r, f11_heightOf σ 1 d k = some (r, σ) ∧ f12_heightOf σ 101 d k = some (r, wI σ 101 0 0) := by
  have L0 : Lay (wI σ 101 0 0) := Lay_wI L
  have R : RiK σ (wI σ 101 0 0) p q := RiK_Fr Fr0 L (fun a k h q => by unfold W0 at q; omega) g.2
  have e14 : sI (wI σ 101 0 0) 101 14 = nI e := by rw [sI_wk (by decide)]; exact hd.2.1
  have eM : f12_heightOf σ 101 d k = if (0 ≤ d ∧ d ≤ 999) ∧ 0 ≤ k ∧ k ≤ nI e then some (hgF σ p d k, wI σ 101 0 0) else some (-1, wI σ 101 0 0) := by
    unfold f12_heightOf
    rw [gd_t (oL101 L), lt_b, bd_s (isKnown_s L0), ite_B, e14, heightM L0 g.1 R, bd_1]
  have eC : f11_heightOf σ 1 d k = if (0 ≤ d ∧ d ≤ 999) ∧ 0 ≤ k ∧ k ≤ nI e then some (hgF σ p d k, σ) else some (-1, σ) := by
    unfold f11_heightOf
    rw [bd_s isDay_s, ite_B, gd_t (oL1 L), bd_s (isKnownDay_s L), ite_B, hd.1, lt_b, rL1_1 L, gd_t nz_s, gd_t (oL35 L), lt_b, rL35_1 L, gd_t nz_s, gd_t (oL36 L), heightC L g.1, bd_1]
    by_cases h : 0 ≤ d ∧ d ≤ 999
    · rw [if_pos h]
      by_cases h2 : 0 ≤ k ∧ k ≤ nI e
      · rw [if_pos h2, if_pos ⟨h, h2⟩]
      · rw [if_neg h2, if_neg (fun w => h2 w.2)]
    · rw [if_neg h, if_neg (fun w => h w.1)]
  rw [eM, eC]
  by_cases h : (0 ≤ d ∧ d ≤ 999) ∧ 0 ≤ k ∧ k ≤ nI e
  · exact ⟨_, if_pos h, if_pos h⟩
  · exact ⟨_, if_neg h, if_neg h⟩
theorem iceOf_q {σ : St} (L : Lay σ) {e p q : Nat} (hd : gD σ e) (g : gKK σ p q) (d k : Int32) : ∃ r, f11_iceOf σ 1 d k = some (r, σ) ∧ f12_iceOf σ 101 d k = some (r, wI σ 101 0 0) := by
  have L0 : Lay (wI σ 101 0 0) := Lay_wI L
  have R : RiK σ (wI σ 101 0 0) p q := RiK_Fr Fr0 L (fun a k h q => by unfold W0 at q; omega) g.2
  have e14 : sI (wI σ 101 0 0) 101 14 = nI e := by rw [sI_wk (by decide)]; exact hd.2.1
  have eM : f12_iceOf σ 101 d k = if (0 ≤ d ∧ d ≤ 999) ∧ 0 ≤ k ∧ k ≤ nI e then some (icF σ q d k, wI σ 101 0 0) else some (-1, wI σ 101 0 0) := by
    unfold f12_iceOf
    rw [gd_t (oL101 L), lt_b, bd_s (isKnown_s L0), ite_B, e14, iceM L0 g.1 R, bd_1]
    rcases icF_b g.1 d k with w | w
    · rw [w, if_pos (show (0 : Int32) = 0 from rfl)]
    · rw [w, if_neg (show ¬ (1 : Int32) = 0 by decide)]
  have eC : f11_iceOf σ 1 d k = if (0 ≤ d ∧ d ≤ 999) ∧ 0 ≤ k ∧ k ≤ nI e then some (icF σ q d k, σ) else some (-1, σ) := by
    unfold f11_iceOf
    rw [bd_s isDay_s, ite_B, gd_t (oL1 L), bd_s (isKnownDay_s L), ite_B, hd.1, lt_b, rL1_1 L, gd_t nz_s, gd_t (oL35 L), lt_b, rL35_2 L, gd_t nz_s, gd_t (oL40 L), iceC L g.1, bd_1]
    by_cases h : 0 ≤ d ∧ d ≤ 999
    · rw [if_pos h]
      by_cases h2 : 0 ≤ k ∧ k ≤ nI e
      · rw [if_pos h2, if_pos ⟨h, h2⟩]
      · rw [if_neg h2, if_neg (fun w => h2 w.2)]
    · rw [if_neg h, if_neg (fun w => h w.1)]
  rw [eM, eC]
  by_cases h : (0 ≤ d ∧ d ≤ 999) ∧ 0 ≤ k ∧ k ≤ nI e
  · exact ⟨_, if_pos h, if_pos h⟩
  · exact ⟨_, if_neg h, if_neg h⟩
theorem height_q {σ : St} (L : Lay σ) {e p q : Nat} (hd : gD σ e) (g : gKK σ p q) (d h : Int32) : ∃ r σ1 τ p', f11_height σ 1 d h = some (r, σ1) ∧ f12_height σ1 101 d h = some (r, τ) ∧ Fr Wbk σ τ ∧ gKK τ p' q := by
  have fr0 : ∀ τ, Fr Wbk σ τ → Fr Wbk σ (wI τ 101 0 0) := fun τ h => Fr_wI h (Or.inl (Or.inl ⟨rfl, rfl⟩))
  have b := g.1.1
  have eM : ∀ σ1, Lay σ1 → sI σ1 101 15 = nI p → sI σ1 101 14 = nI e → f12_height σ1 101 d h = if ((0 ≤ d ∧ d ≤ 999) ∧ 0 ≤ h ∧ h ≤ 20) ∧ p < 200 then some (1, wI (wI (wI (wI (wI σ1 101 0 0) 114 p d) 115 p h) 116 p (nI e)) 101 15 (nI (p + 1))) else some (0, wI σ1 101 0 0) := by
    intro σ1 L1 e15 e14
    have L10 : Lay (wI σ1 101 0 0) := Lay_wI L1
    unfold f12_height
    rw [gd_t (oL101 L1), lt_b, bd_s isDayM_s, ite_B, bd_s within_s, ite_B, sI_wk (j := 15) (by decide), e15]
    by_cases h1 : 0 ≤ d ∧ d ≤ 999
    · by_cases h2 : 0 ≤ h ∧ h ≤ 20
      · rw [if_pos h1, if_pos h2]
        by_cases h3 : p < 200
        · have L11 : Lay (wI (wI σ1 101 0 0) 114 p d) := L10
          have L12 : Lay (wI (wI (wI σ1 101 0 0) 114 p d) 115 p h) := L10
          have a1 : sI (wI (wI σ1 101 0 0) 114 p d) 101 15 = nI p := by (repeat (first | rw [sI_w1] | rw [sI_wo (by omega)] | rw [sI_wk (by omega)])); exact e15
          have a2 : sI (wI (wI (wI σ1 101 0 0) 114 p d) 115 p h) 101 15 = nI p := by (repeat (first | rw [sI_w1] | rw [sI_wo (by omega)] | rw [sI_wk (by omega)])); exact e15
          have a3 : sI (wI (wI (wI σ1 101 0 0) 114 p d) 115 p h) 101 14 = nI e := by (repeat (first | rw [sI_w1] | rw [sI_wo (by omega)] | rw [sI_wk (by omega)])); exact e14
          have a4 : sI (wI (wI (wI (wI σ1 101 0 0) 114 p d) 115 p h) 116 p (nI e)) 101 15 = nI p := by (repeat (first | rw [sI_w1] | rw [sI_wo (by omega)] | rw [sI_wk (by omega)])); exact e15
          rw [if_neg (show ¬ nI p = 200 from fun w => by have := (nI_eq (a := p) (b := 200) (by omega) (by omega)).mp w; omega), if_pos ⟨⟨h1, h2⟩, h3⟩, lt_b, rL101_16 L10, gd_t nz_s, gd_t (oL114 L10), gd_t (inb_n (lL114 L10) h3 (by decide)), ix_n (by omega), lt_b, lt_b, rL101_17 L11, gd_t nz_s, gd_t (oL115 L11), a1, gd_t (inb_n (lL115 L11) h3 (by decide)), ix_n (by omega), lt_b, lt_b, rL101_18 L12, gd_t nz_s, gd_t (oL116 L12), a2, gd_t (inb_n (lL116 L12) h3 (by decide)), ix_n (by omega), a3, lt_b, lt_b, a4, nI_1]
        · rw [if_pos (show nI p = 200 by rw [show p = 200 by omega]; rfl), if_neg (fun w => h3 w.2)]
      · rw [if_pos h1, if_neg h2, if_neg (fun w => h2 w.1.2)]
    · rw [if_neg h1, if_neg (fun w => h1 w.1.1)]
  have eC : f11_height σ 1 d h = if (0 ≤ d ∧ d ≤ 999) ∧ 0 ≤ h ∧ h ≤ 20 then f1_tell σ 36 d h (nI e) else some (0, σ) := by
    unfold f11_height
    rw [bd_s isDay_s, ite_B, bd_s isHeight_s, ite_B, gd_t (oL1 L), lt_b, rL1_1 L, gd_t nz_s, gd_t (oL35 L), lt_b, rL35_1 L, gd_t nz_s, gd_t (oL36 L), hd.1, tell_s L (Or.inl rfl) g.1.2.1.1 g.1.1.1]
    by_cases h3 : p < bl 36
    · rw [if_pos h3, bd_1, if_neg (show ¬ (1 : Int32) = 0 by decide)]
      by_cases h1 : 0 ≤ d ∧ d ≤ 999
      · by_cases h2 : 0 ≤ h ∧ h ≤ 20
        · rw [if_pos h1, if_pos h2, if_pos ⟨h1, h2⟩]
        · rw [if_pos h1, if_neg h2, if_neg (fun w => h2 w.2)]
      · rw [if_neg h1, if_neg (fun w => h1 w.1)]
    · rw [if_neg h3, bd_1, if_pos (show (0 : Int32) = 0 from rfl)]
      by_cases h1 : 0 ≤ d ∧ d ≤ 999
      · by_cases h2 : 0 ≤ h ∧ h ≤ 20
        · rw [if_pos h1, if_pos h2, if_pos ⟨h1, h2⟩]
        · rw [if_pos h1, if_neg h2, if_neg (fun w => h2 w.2)]
      · rw [if_neg h1, if_neg (fun w => h1 w.1)]
  by_cases h1 : (0 ≤ d ∧ d ≤ 999) ∧ 0 ≤ h ∧ h ≤ 20
  · by_cases h3 : p < 200
    · refine ⟨1, wI (wI (wI (wI σ 37 p d) 38 p (nI e)) 39 p h) 36 3 (nI (p + 1)), wI (wI (wI (wI (wI (wI (wI (wI (wI σ 37 p d) 38 p (nI e)) 39 p h) 36 3 (nI (p + 1))) 101 0 0) 114 p d) 115 p h) 116 p (nI e)) 101 15 (nI (p + 1)), p + 1, ?_, ?_, ?_, ⟨⟨by omega, ?_, fun i hi => ?_, fun i hi => ?_⟩, ?_, fun i hi => ?_, fun i hi => ?_⟩⟩
      · rw [eC, if_pos h1, tell_s L (Or.inl rfl) g.1.2.1.1 g.1.1.1, if_pos (show p < bl 36 from h3)]
      · rw [eM _ (Lay_wI (Lay_wI (Lay_wI (Lay_wI L)))) (by (repeat (first | rw [sI_w1] | rw [sI_wo (by omega)] | rw [sI_wk (by omega)])); exact g.2.1.1) (by (repeat (first | rw [sI_w1] | rw [sI_wo (by omega)] | rw [sI_wk (by omega)])); exact hd.2.1), if_pos ⟨h1, h3⟩]
      · refine Fr_wI (Fr_wI (Fr_wI (Fr_wI (fr0 _ (Fr_wI (Fr_wI (Fr_wI (Fr_wI Fr_rf ?_) ?_) ?_) ?_)) ?_) ?_) ?_) ?_ <;> exact Or.inl (by unfold Wbk fpK; omega)
      · refine ⟨?_, ?_⟩
        · repeat (first | rw [sI_w1] | rw [sI_wo (by omega)] | rw [sI_wk (by omega)])
        · repeat (first | rw [sI_w1] | rw [sI_wo (by omega)] | rw [sI_wk (by omega)])
          exact g.1.2.1.2
      · by_cases c : i = p
        · subst c
          repeat (first | rw [sI_w1] | rw [sI_wo (by omega)] | rw [sI_wk (by omega)])
          exact Hh_of h1.2
        · have w := g.1.2.2.1 i (by omega)
          repeat (first | rw [sI_w1] | rw [sI_wo (by omega)] | rw [sI_wk (by omega)])
          exact w
      · have w := g.1.2.2.2 i hi
        repeat (first | rw [sI_w1] | rw [sI_wo (by omega)] | rw [sI_wk (by omega)])
        exact w
      · refine ⟨?_, ?_⟩
        · repeat (first | rw [sI_w1] | rw [sI_wo (by omega)] | rw [sI_wk (by omega)])
        · repeat (first | rw [sI_w1] | rw [sI_wo (by omega)] | rw [sI_wk (by omega)])
          exact g.2.1.2
      · by_cases c : i = p
        · subst c
          refine ⟨?_, ?_, ?_⟩
          · repeat (first | rw [sI_w1] | rw [sI_wo (by omega)] | rw [sI_wk (by omega)])
          · repeat (first | rw [sI_w1] | rw [sI_wo (by omega)] | rw [sI_wk (by omega)])
          · repeat (first | rw [sI_w1] | rw [sI_wo (by omega)] | rw [sI_wk (by omega)])
        · have w := g.2.2.1 i (by omega)
          repeat (first | rw [sI_w1] | rw [sI_wo (by omega)] | rw [sI_wk (by omega)])
          exact w
      · have w := g.2.2.2 i hi
        repeat (first | rw [sI_w1] | rw [sI_wo (by omega)] | rw [sI_wk (by omega)])
        exact w
    · exact ⟨0, σ, wI σ 101 0 0, p, by rw [eC, if_pos h1, tell_s L (Or.inl rfl) g.1.2.1.1 g.1.1.1, if_neg (show ¬ p < bl 36 from h3)], by rw [eM σ L g.2.1.1 hd.2.1, if_neg (fun w => h3 w.2)], fr0 _ Fr_rf, gKK0 L g⟩
  · exact ⟨0, σ, wI σ 101 0 0, p, by rw [eC, if_neg h1], by rw [eM σ L g.2.1.1 hd.2.1, if_neg (fun w => h1 w.1)], fr0 _ Fr_rf, gKK0 L g⟩
theorem nar_b {x : Int32} (h : x = 0 ∨ x = 1) : vp_nar .boolean x = x := by rcases h with rfl | rfl <;> decide
theorem ice_q {σ : St} (L : Lay σ) {e p q : Nat} (hd : gD σ e) (g : gKK σ p q) (d h : Int32) (hb : h = 0 ∨ h = 1) : ∃ r σ1 τ q', f11_ice σ 1 d h = some (r, σ1) ∧ f12_ice σ1 101 d h = some (r, τ) ∧ Fr Wbk σ τ ∧ gKK τ p q' := by
  have fr0 : ∀ τ, Fr Wbk σ τ → Fr Wbk σ (wI τ 101 0 0) := fun τ h => Fr_wI h (Or.inl (Or.inl ⟨rfl, rfl⟩))
  have b := g.1.1
  have eM : ∀ σ1, Lay σ1 → sI σ1 101 19 = nI q → sI σ1 101 14 = nI e → f12_ice σ1 101 d h = if (0 ≤ d ∧ d ≤ 999) ∧ q < 200 then some (1, wI (wI (wI (wI (wI σ1 101 0 0) 117 q d) 118 q h) 119 q (nI e)) 101 19 (nI (q + 1))) else some (0, wI σ1 101 0 0) := by
    intro σ1 L1 e19 e14
    have L10 : Lay (wI σ1 101 0 0) := Lay_wI L1
    unfold f12_ice
    rw [gd_t (oL101 L1), lt_b, bd_s isDayM_s, ite_B, sI_wk (j := 19) (by decide), e19]
    by_cases h1 : 0 ≤ d ∧ d ≤ 999
    · rw [if_pos h1]
      by_cases h3 : q < 200
      · have L11 : Lay (wI (wI σ1 101 0 0) 117 q d) := L10
        have L12 : Lay (wI (wI (wI σ1 101 0 0) 117 q d) 118 q h) := L10
        have a1 : sI (wI (wI σ1 101 0 0) 117 q d) 101 19 = nI q := by (repeat (first | rw [sI_w1] | rw [sI_wo (by omega)] | rw [sI_wk (by omega)])); exact e19
        have a2 : sI (wI (wI (wI σ1 101 0 0) 117 q d) 118 q h) 101 19 = nI q := by (repeat (first | rw [sI_w1] | rw [sI_wo (by omega)] | rw [sI_wk (by omega)])); exact e19
        have a3 : sI (wI (wI (wI σ1 101 0 0) 117 q d) 118 q h) 101 14 = nI e := by (repeat (first | rw [sI_w1] | rw [sI_wo (by omega)] | rw [sI_wk (by omega)])); exact e14
        have a4 : sI (wI (wI (wI (wI σ1 101 0 0) 117 q d) 118 q h) 119 q (nI e)) 101 19 = nI q := by (repeat (first | rw [sI_w1] | rw [sI_wo (by omega)] | rw [sI_wk (by omega)])); exact e19
        rw [if_neg (show ¬ nI q = 200 from fun w => by have := (nI_eq (a := q) (b := 200) (by omega) (by omega)).mp w; omega), if_pos ⟨h1, h3⟩, lt_b, rL101_20 L10, gd_t nz_s, gd_t (oL117 L10), gd_t (inb_n (lL117 L10) h3 (by decide)), ix_n (by omega), lt_b, lt_b, rL101_21 L11, gd_t nz_s, gd_t (oL118 L11), a1, gd_t (inb_n (lL118 L11) h3 (by decide)), ix_n (by omega), nar_b hb, lt_b, lt_b, rL101_22 L12, gd_t nz_s, gd_t (oL119 L12), a2, gd_t (inb_n (lL119 L12) h3 (by decide)), ix_n (by omega), a3, lt_b, lt_b, a4, nI_1]
      · rw [if_pos (show nI q = 200 by rw [show q = 200 by omega]; rfl), if_neg (fun w => h3 w.2)]
    · rw [if_neg h1, if_neg (fun w => h1 w.1)]
  have e24 : f11_ice_p24 σ 1 h d 40 = f1_tell σ 40 d h (nI e) := by
    unfold f11_ice_p24
    rw [gd_t (oL1 L), gd_t (oL40 L), hd.1, tell_s L (Or.inr (Or.inl rfl)) g.1.2.1.2 g.1.1.2]
    by_cases h3 : q < bl 40
    · rw [if_pos h3, bd_1, if_neg (by decide)]
    · rw [if_neg h3, bd_1, if_pos rfl]
  have eC : f11_ice σ 1 d h = if 0 ≤ d ∧ d ≤ 999 then f1_tell σ 40 d h (nI e) else some (0, σ) := by
    unfold f11_ice
    rw [bd_s isDay_s, ite_B, gd_t (oL1 L), lt_b, rL1_1 L, gd_t nz_s, gd_t (oL35 L), lt_b, rL35_2 L, gd_t nz_s]
    by_cases h1 : 0 ≤ d ∧ d ≤ 999
    · rw [if_pos h1, if_pos h1, ← e24]
      rcases hb with rfl | rfl
      · rw [if_pos rfl]
      · rw [if_neg (by decide)]
    · rw [if_neg h1, if_neg h1]
  by_cases h1 : 0 ≤ d ∧ d ≤ 999
  · by_cases h3 : q < 200
    · refine ⟨1, wI (wI (wI (wI σ 41 q d) 42 q (nI e)) 43 q h) 40 3 (nI (q + 1)), wI (wI (wI (wI (wI (wI (wI (wI (wI σ 41 q d) 42 q (nI e)) 43 q h) 40 3 (nI (q + 1))) 101 0 0) 117 q d) 118 q h) 119 q (nI e)) 101 19 (nI (q + 1)), q + 1, ?_, ?_, ?_, ⟨⟨by omega, ?_, fun i hi => ?_, fun i hi => ?_⟩, ?_, fun i hi => ?_, fun i hi => ?_⟩⟩
      · rw [eC, if_pos h1, tell_s L (Or.inr (Or.inl rfl)) g.1.2.1.2 g.1.1.2, if_pos (show q < bl 40 from h3)]
      · rw [eM _ (Lay_wI (Lay_wI (Lay_wI (Lay_wI L)))) (by (repeat (first | rw [sI_w1] | rw [sI_wo (by omega)] | rw [sI_wk (by omega)])); exact g.2.1.2) (by (repeat (first | rw [sI_w1] | rw [sI_wo (by omega)] | rw [sI_wk (by omega)])); exact hd.2.1), if_pos ⟨h1, h3⟩]
      · refine Fr_wI (Fr_wI (Fr_wI (Fr_wI (fr0 _ (Fr_wI (Fr_wI (Fr_wI (Fr_wI Fr_rf ?_) ?_) ?_) ?_)) ?_) ?_) ?_) ?_ <;> exact Or.inl (by unfold Wbk fpK; omega)
      · refine ⟨?_, ?_⟩
        · repeat (first | rw [sI_w1] | rw [sI_wo (by omega)] | rw [sI_wk (by omega)])
          exact g.1.2.1.1
        · repeat (first | rw [sI_w1] | rw [sI_wo (by omega)] | rw [sI_wk (by omega)])
      · have w := g.1.2.2.1 i hi
        repeat (first | rw [sI_w1] | rw [sI_wo (by omega)] | rw [sI_wk (by omega)])
        exact w
      · by_cases c : i = q
        · subst c
          repeat (first | rw [sI_w1] | rw [sI_wo (by omega)] | rw [sI_wk (by omega)])
          rcases hb with rfl | rfl <;> rfl
        · have w := g.1.2.2.2 i (by omega)
          repeat (first | rw [sI_w1] | rw [sI_wo (by omega)] | rw [sI_wk (by omega)])
          exact w
      · refine ⟨?_, ?_⟩
        · repeat (first | rw [sI_w1] | rw [sI_wo (by omega)] | rw [sI_wk (by omega)])
          exact g.2.1.1
        · repeat (first | rw [sI_w1] | rw [sI_wo (by omega)] | rw [sI_wk (by omega)])
      · have w := g.2.2.1 i hi
        repeat (first | rw [sI_w1] | rw [sI_wo (by omega)] | rw [sI_wk (by omega)])
        exact w
      · by_cases c : i = q
        · subst c
          refine ⟨?_, ?_, ?_⟩
          · repeat (first | rw [sI_w1] | rw [sI_wo (by omega)] | rw [sI_wk (by omega)])
          · repeat (first | rw [sI_w1] | rw [sI_wo (by omega)] | rw [sI_wk (by omega)])
          · repeat (first | rw [sI_w1] | rw [sI_wo (by omega)] | rw [sI_wk (by omega)])
        · have w := g.2.2.2 i (by omega)
          repeat (first | rw [sI_w1] | rw [sI_wo (by omega)] | rw [sI_wk (by omega)])
          exact w
    · exact ⟨0, σ, wI σ 101 0 0, q, by rw [eC, if_pos h1, tell_s L (Or.inr (Or.inl rfl)) g.1.2.1.2 g.1.1.2, if_neg (show ¬ q < bl 40 from h3)], by rw [eM σ L g.2.1.2 hd.2.1, if_neg (fun w => h3 w.2)], fr0 _ Fr_rf, gKK0 L g⟩
  · exact ⟨0, σ, wI σ 101 0 0, q, by rw [eC, if_neg h1], by rw [eM σ L g.2.1.2 hd.2.1, if_neg (fun w => h1 w.1)], fr0 _ Fr_rf, gKK0 L g⟩
