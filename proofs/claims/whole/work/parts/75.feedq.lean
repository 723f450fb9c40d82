def gA (σ : St) (s : Nat) : Prop := s ≤ 400 ∧ sI σ 1 7 = nI s ∧ sI σ 101 35 = nI s ∧ ∀ i, i < s → (∃ c, c < 256 ∧ sI σ 100 i = nI c) ∧ sI σ 131 i = sbF (sI σ 100 i)
def fpA (a k : Nat) : Prop := a = 1 ∧ k = 7 ∨ a = 101 ∧ k = 35 ∨ a = 100 ∨ a = 131
theorem gA_Fr {W : Nat → Nat → Prop} {σ τ : St} {s : Nat} (h : Fr W σ τ) (L : Lay σ) (hw : ∀ a k, fpA a k → ¬ W a k) (g : gA σ s) : gA τ s := by
  have hN := L.2.2
  have e : ∀ a k, fpA a k → sI τ a k = sI σ a k := fun a k q => Fr_i h (by unfold fpA at q; omega) (hw a k q)
  refine ⟨g.1, by rw [e 1 7 (by unfold fpA; omega)]; exact g.2.1, by rw [e 101 35 (by unfold fpA; omega)]; exact g.2.2.1, fun i hi => ?_⟩
  rw [e 100 _ (by unfold fpA; omega), e 131 _ (by unfold fpA; omega)]
  exact g.2.2.2 i hi
theorem gA0 {σ : St} (L : Lay σ) {s : Nat} (g : gA σ s) : gA (wI σ 101 0 0) s := gA_Fr Fr0 L (fun a k h q => by unfold fpA at h; unfold W0 at q; omega) g
def Wfd (a k : Nat) : Prop := a = 101 ∧ k = 0 ∨ fpA a k
theorem feed_q {σ : St} (L : Lay σ) {s : Nat} (g : gA σ s) (a b c d e : Int32) : ∃ r σ1 τ s', f11_feed σ 1 a b c d e = some (r, σ1) ∧ f12_feed σ1 101 a b c d e = some (r, τ) ∧ Fr Wfd σ τ ∧ gA τ s' := by
  have g1 := g.1
  have e20 : nI s + 20 = nI (s + 20) := by rw [← nI_add]; rfl
  by_cases h : s + 20 ≤ 400
  · obtain ⟨τ1, a1, a2, a3, a4, a5⟩ := addBytes_s L a g.2.1 (by omega)
    have L1 := Lay_Fr a2 L
    obtain ⟨τ2, b1, b2, b3, b4, b5⟩ := addBytes_s L1 b a3 (by omega)
    have L2 := Lay_Fr b2 L1
    obtain ⟨τ3, c1, c2, c3, c4, c5⟩ := addBytes_s L2 c b3 (by omega)
    have L3 := Lay_Fr c2 L2
    obtain ⟨τ4, d1, d2, d3, d4, d5⟩ := addBytes_s L3 d c3 (by omega)
    have L4 := Lay_Fr d2 L3
    obtain ⟨τ5, e1, e2, e3, e4, e5⟩ := addBytes_s L4 e d3 (by omega)
    have L5 := Lay_Fr e2 L4
    have fr5 : Fr Wfc σ τ5 := Fr_tr a2 (Fr_tr b2 (Fr_tr c2 (Fr_tr d2 e2)))
    have hN := L.2.2
    have k35 : sI (wI τ5 101 0 0) 101 35 = nI (s + 0) := by rw [sI_wk (by decide), Fr_i fr5 (by omega) (by unfold Wfc; omega)]; exact g.2.2.1
    obtain ⟨τ, m1, m2, m3, m4, m5⟩ := fd_l a b c d e s h 20 FU 0 (wI τ5 101 0 0) (Lay_wI L5) (by omega) (by unfold FU; omega) k35
    have N5 := L5.2.2
    have x100 : ∀ q, sI τ 100 q = sI τ5 100 q := fun q => by rw [Fr_i m2 (show 100 ≤ sN (wI τ5 101 0 0) by show 100 ≤ sN τ5; omega) (by unfold Wfm; omega), sI_wo (by decide)]
    have low : ∀ i, i < s → sI τ5 100 i = sI σ 100 i := fun i hi => by rw [e4 i (by omega), d4 i (by omega), c4 i (by omega), b4 i (by omega), a4 i (by omega)]
    have new : ∀ t, t < 20 → sI τ5 100 (s + t) = ybF (pkF a b c d e t) (8 * (3 - t % 4)) := by
      intro t ht
      unfold pkF
      by_cases h1 : t < 4
      · rw [if_pos h1, e4 _ (by omega), d4 _ (by omega), c4 _ (by omega), b4 _ (by omega), a5 t h1, show t % 4 = t by omega]
      · rw [if_neg h1]
        by_cases h2 : t < 8
        · have := b5 (t - 4) (by omega)
          rw [show s + 4 + (t - 4) = s + t by omega] at this
          rw [if_pos h2, e4 _ (by omega), d4 _ (by omega), c4 _ (by omega), this, show t % 4 = t - 4 by omega]
        · rw [if_neg h2]
          by_cases h3 : t < 12
          · have := c5 (t - 8) (by omega)
            rw [show s + 4 + 4 + (t - 8) = s + t by omega] at this
            rw [if_pos h3, e4 _ (by omega), d4 _ (by omega), this, show t % 4 = t - 8 by omega]
          · rw [if_neg h3]
            by_cases h4 : t < 16
            · have := d5 (t - 12) (by omega)
              rw [show s + 4 + 4 + 4 + (t - 12) = s + t by omega] at this
              rw [if_pos h4, e4 _ (by omega), this, show t % 4 = t - 12 by omega]
            · have := e5 (t - 16) (by omega)
              rw [show s + 4 + 4 + 4 + 4 + (t - 16) = s + t by omega] at this
              rw [if_neg h4, this, show t % 4 = t - 16 by omega]
    refine ⟨nI (s + 20), τ5, τ, s + 20, ?_, ?_, ?_, h, ?_, m3, fun i hi => ?_⟩
    · unfold f11_feed
      rw [gd_t (oL1 L), g.2.1, e20, if_pos (show nI (s + 20) ≤ 400 from nI_le (b := 400) h (by decide)), bd_s a1, bd_s b1, bd_s c1, bd_s d1, bd_s e1, e3]
    · unfold f12_feed
      rw [gd_t (oL101 L5), lt_b, k35, Nat.add_zero, e20, if_pos (show nI (s + 20) ≤ 400 from nI_le (b := 400) h (by decide))]
      exact m1
    · exact Fr_tr (Fr_wI (Fr_mo fr5 (fun a k q => by unfold Wfc at q; unfold Wfd fpA; omega)) (Or.inl (Or.inl ⟨rfl, rfl⟩))) (Fr_mo m2 (fun a k q => by unfold Wfm at q; unfold Wfd fpA; omega))
    · rw [Fr_i m2 (show 1 ≤ sN (wI τ5 101 0 0) by show 1 ≤ sN τ5; omega) (by unfold Wfm; omega), sI_wo (by decide), e3]
    · rw [x100]
      by_cases c : i < s
      · rw [low i c, m4 i (by omega), sI_wo (by decide), Fr_i fr5 (by omega) (by unfold Wfc; omega)]
        exact g.2.2.2 i c
      · have w := m5 (i - s) (by omega) (by omega)
        have v := new (i - s) (by omega)
        rw [show s + (i - s) = i by omega] at w v
        rw [w, v]
        exact ⟨u255 _, rfl⟩
  · refine ⟨-1, σ, wI σ 101 0 0, s, ?_, ?_, Fr_wI Fr_rf (Or.inl (Or.inl ⟨rfl, rfl⟩)), gA0 L g⟩
    · unfold f11_feed
      rw [gd_t (oL1 L), g.2.1, e20, if_neg (show ¬ nI (s + 20) ≤ 400 from nI_ge (a := 400) (by omega) (by omega))]
    · unfold f12_feed
      rw [gd_t (oL101 L), lt_b, sI_wk (by decide), g.2.2.1, e20, if_neg (show ¬ nI (s + 20) ≤ 400 from nI_ge (a := 400) (by omega) (by omega))]
theorem end_q {σ : St} (L : Lay σ) {s : Nat} (g : gA σ s) (n : Int32) : ∃ r σ1 τ s', f11_end σ 1 n = some (r, σ1) ∧ f12_end σ1 101 n = some (r, τ) ∧ Fr Wfd σ τ ∧ gA τ s' := by
  have g1 := g.1
  have fr0 : Fr Wfd σ (wI σ 101 0 0) := Fr_wI Fr_rf (Or.inl (Or.inl ⟨rfl, rfl⟩))
  by_cases h : n < 0
  · refine ⟨-1, σ, wI σ 101 0 0, s, ?_, ?_, fr0, gA0 L g⟩
    · unfold f11_end
      rw [if_pos h]
    · unfold f12_end
      rw [gd_t (oL101 L), lt_b, if_pos h]
  · by_cases h2 : n ≤ nI s
    · obtain ⟨j, hj, rfl⟩ := nI_of2 (M := nI s) (n := s) (nI_toInt (by omega)) h h2
      refine ⟨nI j, wI σ 1 7 (nI j), wI (wI (wI σ 1 7 (nI j)) 101 0 0) 101 35 (nI j), j, ?_, ?_, ?_, by omega, ?_, ?_, fun i hi => ?_⟩
      · unfold f11_end
        rw [if_neg h, gd_t (oL1 L), g.2.1, if_pos h2, lt_b]
      · unfold f12_end
        rw [gd_t (oL101 (Lay_wI L)), lt_b, if_neg h, sI_wk (by decide), sI_wo (by decide), g.2.2.1, if_pos h2, lt_b]
      · refine Fr_wI (Fr_wI (Fr_wI Fr_rf ?_) ?_) ?_ <;> exact Or.inl (by unfold Wfd fpA; omega)
      · rw [sI_wo (by decide), sI_wo (by decide), sI_w1]
      · rw [sI_w1]
      · rw [sI_wo (b := 100) (by decide), sI_wo (b := 100) (by decide), sI_wo (b := 100) (by decide), sI_wo (b := 131) (by decide), sI_wo (b := 131) (by decide), sI_wo (b := 131) (by decide)]
        exact g.2.2.2 i (by omega)
    · refine ⟨-1, σ, wI σ 101 0 0, s, ?_, ?_, fr0, gA0 L g⟩
      · unfold f11_end
        rw [if_neg h, gd_t (oL1 L), g.2.1, if_neg h2]
      · unfold f12_end
        rw [gd_t (oL101 L), lt_b, if_neg h, sI_wk (by decide), g.2.2.1, if_neg h2]
theorem place_q {σ : St} (L : Lay σ) (h : sI σ 46 12 = sI σ 101 42) : f11_place σ 1 = some (sI σ 46 12, σ) ∧ f12_place σ 101 = some (sI σ 46 12, wI σ 101 0 0) := by
  constructor
  · unfold f11_place
    rw [gd_t (oL1 L), lt_b, rL1_1 L, gd_t nz_s, gd_t (oL35 L), lt_b, rL35_5 L, gd_t nz_s, gd_t (oL46 L)]
  · unfold f12_place
    rw [gd_t (oL101 L), lt_b, sI_wk (by decide), h]
