/-! MOOR, DRESS -/
theorem LO_set {n m : Nat} {f g : Nat → Int32} {b : Int32} (l : LO n f) (hg : ∀ q, g q = if q = m then b else f q) (hb : b = -2 ∨ b = -1 ∨ (∃ u, u < 72 ∧ b = nI u) ∧ ∀ q, q < n → q ≠ m → f q ≠ b) : LO n g := by
  constructor
  · intro q hq
    rw [hg q]
    by_cases e : q = m
    · rw [if_pos e]
      rcases hb with h | h | h
      · exact Or.inl h
      · exact Or.inr (Or.inl h)
      · exact Or.inr (Or.inr h.1)
    · rw [if_neg e]; exact l.1 q hq
  · intro i j hi hj e h0
    rw [hg i, hg j] at e
    rw [hg i] at h0
    have hb0 : 0 ≤ b → ∀ q, q < n → q ≠ m → f q ≠ b := fun h => by
      rcases hb with h' | h' | h'
      · rw [h'] at h; exact absurd h (by decide)
      · rw [h'] at h; exact absurd h (by decide)
      · exact h'.2
    by_cases e1 : i = m
    · by_cases e2 : j = m
      · rw [e1, e2]
      · rw [if_pos e1, if_neg e2] at e
        rw [if_pos e1] at h0
        exact absurd e.symm (hb0 h0 j hj e2)
    · by_cases e2 : j = m
      · rw [if_neg e1, if_pos e2] at e
        rw [if_neg e1, e] at h0
        exact absurd e (hb0 h0 i hi e1)
      · rw [if_neg e1, if_neg e2] at e
        rw [if_neg e1] at h0
        exact l.2 i j hi hj e h0
theorem has_n {σ : St} (L : Lay σ) {n d : Nat} (g : gM σ n d) {m : Int32} (h : 0 ≤ m ∧ m < sI σ 2 5) : ∃ k, k < n ∧ m = nI k := inN g.sz (by have := g.ri.2.1; omega) h
theorem gM_lie {σ τ : St} {n d m : Nat} {b : Int32} (g : gM σ n d) (hm : m < n) (hF : ∀ a k, fpM a k → ¬ (a = 6 ∧ k = m) → ¬ (a = 109 ∧ k = m) → sI τ a k = sI σ a k) (h1 : sI τ 6 m = b) (h2 : sI τ 109 m = b) (hb : b = -2 ∨ b = -1 ∨ (∃ u, u < 72 ∧ b = nI u) ∧ ∀ q, q < n → q ≠ m → sI σ 6 q ≠ b) : gM τ n d := by
  have n6 := g.ri.2.1
  have eb : ∀ m k, m < 6 → sI τ (29 + m) k = sI σ (29 + m) k := fun m k hm => hF _ _ (by unfold fpM; omega) (by omega) (by omega)
  have er : ∀ a k, 106 ≤ a → a ≤ 113 → a ≠ 109 → sI τ a k = sI σ a k := fun a k h1 h2 h3 => hF _ _ (by unfold fpM; omega) (by omega) (by omega)
  refine ⟨by rw [hF _ _ (by unfold fpM; omega) (by omega) (by omega)]; exact g.sz, ⟨by rw [hF _ _ (by unfold fpM; omega) (by omega) (by omega)]; exact g.ri.1, n6, fun m hm => ?_⟩, fun q hq => ?_, LO_set g.lo (m := m) (b := b) (fun q => ?_) hb, fun m hm => ?_, fun q h3 h4 => ?_, fun m hm => ?_⟩
  · rw [er 106 _ (by omega) (by omega) (by omega), er 107 _ (by omega) (by omega) (by omega), er 108 _ (by omega) (by omega) (by omega), er 110 _ (by omega) (by omega) (by omega), er 111 _ (by omega) (by omega) (by omega), er 112 _ (by omega) (by omega) (by omega), er 113 _ (by omega) (by omega) (by omega), eb _ _ (by omega), eb _ _ (by omega), eb _ _ (by omega), eb _ _ (by omega), eb _ _ (by omega), eb _ _ (by omega), eb _ _ (by omega)]
    exact g.ri.2.2 m hm
  · by_cases e : q = m
    · rw [e, h1, h2]
    · rw [hF 109 q (by unfold fpM; omega) (by omega) (by omega), hF 6 q (by unfold fpM; omega) (by omega) (by omega)]; exact g.li q hq
  · by_cases e : q = m
    · rw [if_pos e, e, h1]
    · rw [if_neg e, hF 6 q (by unfold fpM; omega) (by omega) (by omega)]
  · rw [eb _ _ (by omega), eb _ _ (by omega), eb _ _ (by omega)]; exact g.rg m hm
  · rw [er 110 _ (by omega) (by omega) (by omega), er 111 _ (by omega) (by omega) (by omega), er 112 _ (by omega) (by omega) (by omega), hF 6 q (by unfold fpM; omega) (by omega) (by omega), eb _ _ (by omega), eb _ _ (by omega), eb _ _ (by omega), eb _ _ (by omega)]; exact g.nw q h3 h4
  · rw [eb _ _ (by omega)]; exact g.wr m hm
/-- what a mooring answers -/
def moA (n : Nat) (f : Nat → Int32) (m : Nat) (b : Int32) : Int32 :=
  if b = -1 ∨ 0 ≤ b ∧ b < 72 then (if f m = -2 then -2 else if b ≠ -1 ∧ lyF f b n 0 ≠ -1 ∧ lyF f b n 0 ≠ nI m then -3 else 0) else -1
theorem moor_s {σ : St} (L : Lay σ) {n d : Nat} (g : gM σ n d) {m : Nat} (hm : m < n) (b : Int32) : f11_moor σ 1 (nI m) b = some (moA n (sI σ 6) m b, if moA n (sI σ 6) m b = 0 then wI σ 6 m b else σ) := by
  have n6 := g.ri.2.1
  have hh : 0 ≤ nI m ∧ nI m < sI σ 2 5 := ⟨nI_pos' (by omega), by rw [g.sz]; exact nI_lt hm (by omega)⟩
  have e76 : f11_moor_p76 σ 1 (nI m) b = some (0, wI σ 6 m b) := by
    unfold f11_moor_p76
    rw [gd_t (oL1 L), lt_b, rL1_0 L, gd_t nz_s, gd_t (oL2 L), lt_b, rL2_3 L, gd_t nz_s, gd_t (oL6 L), gd_t (inb_n (lL6 L) (by omega) (by decide)), lt_b, ix_n (by omega)]
  have e25 : f11_moor_p25 σ 1 (nI m) b = if sI σ 6 m = -2 then some (-2, σ) else if b ≠ -1 ∧ lyF (sI σ 6) b n 0 ≠ -1 ∧ lyF (sI σ 6) b n 0 ≠ nI m then some (-3, σ) else some (0, wI σ 6 m b) := by
    unfold f11_moor_p25
    rw [gd_t (oL1 L), lt_b, rL1_0 L, gd_t nz_s, gd_t (oL2 L), lt_b, rL2_3 L, gd_t nz_s, gd_t (oL6 L), gd_t (inb_n (lL6 L) (by omega) (by decide)), ix_n (by omega)]
    by_cases h1 : sI σ 6 m = -2
    · rw [if_pos h1, if_pos h1]
    · rw [if_neg h1, if_neg h1]
      by_cases h2 : b = -1
      · rw [if_pos h2, if_neg (fun q => q.1 h2), e76]
      · rw [if_neg h2, bd_s (lyingAt_s L g.sz n6 (oL6 L) (lL6 L))]
        by_cases h3 : lyF (sI σ 6) b n 0 = -1
        · rw [if_pos h3, if_neg (fun q => q.2.1 h3), e76]
        · rw [if_neg h3]
          by_cases h4 : lyF (sI σ 6) b n 0 = nI m
          · rw [if_pos h4, if_neg (fun q => q.2.2 h4), e76]
          · rw [if_neg h4, if_pos ⟨h2, h3, h4⟩]
  have fin : f11_moor_p25 σ 1 (nI m) b = some (if sI σ 6 m = -2 then -2 else if b ≠ -1 ∧ lyF (sI σ 6) b n 0 ≠ -1 ∧ lyF (sI σ 6) b n 0 ≠ nI m then -3 else 0, if (if sI σ 6 m = -2 then -2 else if b ≠ -1 ∧ lyF (sI σ 6) b n 0 ≠ -1 ∧ lyF (sI σ 6) b n 0 ≠ nI m then (-3 : Int32) else 0) = 0 then wI σ 6 m b else σ) := by
    rw [e25]
    by_cases h1 : sI σ 6 m = -2
    · rw [if_pos h1, if_pos h1, if_neg (by decide)]
    · rw [if_neg h1, if_neg h1]
      by_cases h2 : b ≠ -1 ∧ lyF (sI σ 6) b n 0 ≠ -1 ∧ lyF (sI σ 6) b n 0 ≠ nI m
      · rw [if_pos h2, if_pos h2, if_neg (by decide)]
      · rw [if_neg h2, if_neg h2, if_pos rfl]
  unfold f11_moor moA
  rw [gd_t (oL1 L), lt_b, rL1_0 L, gd_t nz_s, gd_t (oL2 L), bd_s (has_s L), ite_B, if_pos hh]
  by_cases h0 : b = -1
  · rw [if_pos h0, if_pos (Or.inl h0), fin]
  · rw [if_neg h0, bd_s isBerth_s, ite_B]
    by_cases h5 : 0 ≤ b ∧ b < 72
    · rw [if_pos h5, if_pos (Or.inr h5), fin]
    · rw [if_neg h5, if_neg (fun q => by rcases q with q | q; exact h0 q; exact h5 q), if_neg (by decide)]
theorem moorM_s {σ : St} (L : Lay σ) {n : Nat} (hn : sI σ 101 5 = nI n) (n6 : n ≤ 6) {m : Nat} (hm : m < n) (b : Int32) : f12_moor σ 101 (nI m) b = some (moA n (sI σ 109) m b, if moA n (sI σ 109) m b = 0 then wI (wI σ 101 0 0) 109 m b else wI σ 101 0 0) := by
  have L0 : Lay (wI σ 101 0 0) := Lay_wI L
  have hn0 : sI (wI σ 101 0 0) 101 5 = nI n := by rw [sI_wk (by decide), hn]
  have e109 : sI (wI σ 101 0 0) 109 = sI σ 109 := funext fun q => sI_wo (by decide) q
  have hh : 0 ≤ nI m ∧ nI m < sI (wI σ 101 0 0) 101 5 := ⟨nI_pos' (by omega), by rw [hn0]; exact nI_lt hm (by omega)⟩
  have e76 : f12_moor_p69 (wI σ 101 0 0) 101 (nI m) b = some (0, wI (wI σ 101 0 0) 109 m b) := by
    unfold f12_moor_p69
    rw [gd_t (oL101 L0), lt_b, rL101_9 L0, gd_t nz_s, gd_t (oL109 L0), gd_t (inb_n (lL109 L0) (by omega) (by decide)), lt_b, ix_n (by omega)]
  have e25 : f12_moor_p27 (wI σ 101 0 0) 101 (nI m) b = if sI σ 109 m = -2 then some (-2, wI σ 101 0 0) else if b ≠ -1 ∧ lyF (sI σ 109) b n 0 ≠ -1 ∧ lyF (sI σ 109) b n 0 ≠ nI m then some (-3, wI σ 101 0 0) else some (0, wI (wI σ 101 0 0) 109 m b) := by
    unfold f12_moor_p27
    rw [gd_t (oL101 L0), lt_b, rL101_9 L0, gd_t nz_s, gd_t (oL109 L0), gd_t (inb_n (lL109 L0) (by omega) (by decide)), ix_n (by omega), e109]
    by_cases h1 : sI σ 109 m = -2
    · rw [if_pos h1, if_pos h1]
    · rw [if_neg h1, if_neg h1]
      by_cases h2 : b = -1
      · rw [if_pos h2, if_neg (fun q => q.1 h2)]
        unfold f12_moor_p55
        rw [if_pos rfl, e76]
      · rw [if_neg h2, bd_s (millAt_s L0 hn0 n6), e109]
        unfold f12_moor_p55
        by_cases h3 : lyF (sI σ 109) b n 0 = -1
        · rw [if_pos h3, if_neg (fun q => q.2.1 h3), e76]
        · rw [if_neg h3]
          by_cases h4 : lyF (sI σ 109) b n 0 = nI m
          · rw [if_pos h4, if_neg (fun q => q.2.2 h4), e76]
          · rw [if_neg h4, if_pos ⟨h2, h3, h4⟩]
  have fin : f12_moor_p27 (wI σ 101 0 0) 101 (nI m) b = some (if sI σ 109 m = -2 then -2 else if b ≠ -1 ∧ lyF (sI σ 109) b n 0 ≠ -1 ∧ lyF (sI σ 109) b n 0 ≠ nI m then -3 else 0, if (if sI σ 109 m = -2 then -2 else if b ≠ -1 ∧ lyF (sI σ 109) b n 0 ≠ -1 ∧ lyF (sI σ 109) b n 0 ≠ nI m then (-3 : Int32) else 0) = 0 then wI (wI σ 101 0 0) 109 m b else wI σ 101 0 0) := by
    rw [e25]
    by_cases h1 : sI σ 109 m = -2
    · rw [if_pos h1, if_pos h1, if_neg (by decide)]
    · rw [if_neg h1, if_neg h1]
      by_cases h2 : b ≠ -1 ∧ lyF (sI σ 109) b n 0 ≠ -1 ∧ lyF (sI σ 109) b n 0 ≠ nI m
      · rw [if_pos h2, if_pos h2, if_neg (by decide)]
      · rw [if_neg h2, if_neg h2, if_pos rfl]
  unfold f12_moor moA
  rw [gd_t (oL101 L), lt_b, bd_s (isMillM_s L0), ite_B, if_pos hh]
  by_cases h0 : b = -1
  · rw [if_pos h0, if_pos (Or.inl h0), fin]
  · rw [if_neg h0, bd_s isBerthM_s, ite_B]
    by_cases h5 : 0 ≤ b ∧ b < 72
    · rw [if_pos h5, if_pos (Or.inr h5), fin]
    · rw [if_neg h5, if_neg (fun q => by rcases q with q | q; exact h0 q; exact h5 q), if_neg (by decide)]
theorem moor_q {σ : St} (L : Lay σ) {n d : Nat} (g : gM σ n d) (m b : Int32) : ∃ r σ1 τ, f11_moor σ 1 m b = some (r, σ1) ∧ f12_moor σ1 101 m b = some (r, τ) ∧ Fr Wmi σ τ ∧ gM τ n d := by
  have n6 := g.ri.2.1
  have fr0 : Fr Wmi σ (wI σ 101 0 0) := Fr_wI Fr_rf (Or.inl (Or.inl ⟨rfl, rfl⟩))
  by_cases h : 0 ≤ m ∧ m < sI σ 2 5
  · obtain ⟨k, hk, rfl⟩ := has_n L g h
    have eA : moA n (sI σ 109) k b = moA n (sI σ 6) k b := by unfold moA; rw [g.li k hk, lyF_congr n 0 (fun q _ hq => g.li q (by omega))]
    by_cases e0 : moA n (sI σ 6) k b = 0
    · have e109 : sI (wI σ 6 k b) 109 = sI σ 109 := funext fun q => sI_wo (by decide) q
      refine ⟨moA n (sI σ 6) k b, wI σ 6 k b, wI (wI (wI σ 6 k b) 101 0 0) 109 k b, by rw [moor_s L g hk, if_pos e0], ?_, ?_, ?_⟩
      · rw [moorM_s (Lay_wI L) (by rw [sI_wo (by omega)]; exact g.ri.1) n6 hk, e109, eA, if_pos e0]
      · refine Fr_wI (Fr_wI (Fr_wI Fr_rf ?_) ?_) ?_ <;> exact Or.inl (by unfold Wmi fpM; omega)
      · refine gM_lie g hk (b := b) (fun a j h1 h2 h3 => ?_) ?_ ?_ ?_
        · unfold fpM at h1
          rw [sI_wI, if_neg (by omega), sI_wI, if_neg (by omega), sI_wI, if_neg (by omega)]
        · repeat (first | rw [sI_w1] | rw [sI_wo (by omega)] | rw [sI_wk (by omega)])
        · repeat (first | rw [sI_w1] | rw [sI_wo (by omega)] | rw [sI_wk (by omega)])
        · unfold moA at e0
          by_cases h1 : b = -1 ∨ 0 ≤ b ∧ b < 72
          · rw [if_pos h1] at e0
            by_cases h2 : sI σ 6 k = -2
            · rw [if_pos h2] at e0; exact absurd e0 (by decide)
            · rw [if_neg h2] at e0
              rcases h1 with h1 | h1
              · exact Or.inr (Or.inl h1)
              · obtain ⟨u, hu, rfl⟩ := in72 h1
                refine Or.inr (Or.inr ⟨⟨u, hu, rfl⟩, fun q hq hne e => ?_⟩)
                by_cases h3 : nI u ≠ -1 ∧ lyF (sI σ 6) (nI u) n 0 ≠ -1 ∧ lyF (sI σ 6) (nI u) n 0 ≠ nI k
                · rw [if_pos h3] at e0; exact absurd e0 (by decide)
                · apply h3
                  refine ⟨nI_m1 (by omega), ?_, ?_⟩
                  · intro e1
                    rcases lyF_sp (f := sI σ 6) (b := nI u) n 0 with ⟨-, w⟩ | ⟨o, -, w2, w3, -, -⟩
                    · exact w q (by omega) (by omega) e
                    · rw [w3] at e1; exact nI_m1 (by omega) e1
                  · intro e1
                    rcases lyF_sp (f := sI σ 6) (b := nI u) n 0 with ⟨w, -⟩ | ⟨o, -, w2, w3, w4, -⟩
                    · rw [w] at e1; exact nI_m1 (by omega) e1.symm
                    · rw [w3] at e1
                      have := (nI_eq (by omega) (by omega)).mp e1
                      rw [this] at w4
                      exact hne (g.lo.2 q k hq hk (e.trans w4.symm) (by rw [e]; exact h1.1))
          · rw [if_neg h1] at e0; exact absurd e0 (by decide)
    · refine ⟨moA n (sI σ 6) k b, σ, wI σ 101 0 0, by rw [moor_s L g hk, if_neg e0], ?_, fr0, gM0 L g⟩
      rw [moorM_s L g.ri.1 n6 hk, eA, if_neg e0]
  · refine ⟨-1, σ, wI σ 101 0 0, ?_, ?_, fr0, gM0 L g⟩
    · unfold f11_moor
      rw [gd_t (oL1 L), lt_b, rL1_0 L, gd_t nz_s, gd_t (oL2 L), bd_s (has_s L), ite_B, if_neg h]
    · unfold f12_moor
      rw [gd_t (oL101 L), lt_b, bd_s (isMillM_s (Lay_wI L)), ite_B, if_neg (by rw [sI_wk (by decide), g.ri.1, ← g.sz]; exact h)]
