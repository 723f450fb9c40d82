/-! RIVER: what the two answer of beds, tables, mills -/
theorem ite_B {α : Type} {p : Prop} [Decidable p] {a b : α} : (if (if p then (1 : Int32) else 0) = 0 then a else b) = if p then b else a := by
  by_cases h : p
  · rw [if_pos h, if_pos h, if_neg (by decide)]
  · rw [if_neg h, if_neg h, if_pos rfl]
theorem ck2 {α : Type} {p q : Prop} [Decidable p] [Decidable q] {c : Prop} [Decidable c] {x y : α} (hc : c ↔ ¬ p) : (if c then x else if q then y else x) = if p ∧ q then y else x := by
  by_cases h : p
  · rw [if_neg (fun e => hc.mp e h)]
    by_cases h2 : q
    · rw [if_pos h2, if_pos ⟨h, h2⟩]
    · rw [if_neg h2, if_neg (fun e => h2 e.2)]
  · rw [if_pos (hc.mpr h), if_neg (fun e => h e.1)]
theorem some_if {p : Prop} [Decidable p] {x y : Int32} {σ : St} : (if p then some (x, σ) else some (y, σ)) = some (if p then x else y, σ) := by
  by_cases h : p
  · rw [if_pos h, if_pos h]
  · rw [if_neg h, if_neg h]
theorem lt_nle {a b : Int32} : a < b ↔ ¬ b ≤ a := by rw [Int32.not_le]
theorem isHeight_s {σ : St} {v : Int32} : f11_isHeight σ v = some (if 0 ≤ v ∧ v ≤ 20 then 1 else 0, σ) := by
  unfold f11_isHeight
  rw [ck2 lt_nle, some_if]
theorem isDay_s {σ : St} {v : Int32} : f11_isDay σ v = some (if 0 ≤ v ∧ v ≤ 999 then 1 else 0, σ) := by
  unfold f11_isDay
  rw [ck2 lt_nle, some_if]
theorem isShore_s {σ : St} {v : Int32} : f11_isShore σ v = some (if 0 ≤ v ∧ v < 2 then 1 else 0, σ) := by
  unfold f11_isShore
  rw [ck2 lt_nle, some_if]
theorem isStretch_s {σ : St} {v : Int32} : f11_isStretch σ v = some (if 0 ≤ v ∧ v < 12 then 1 else 0, σ) := by
  unfold f11_isStretch
  rw [ck2 lt_nle, some_if]
theorem isKnownDay_s {σ : St} (L : Lay σ) {v : Int32} : f11_isKnownDay σ 1 v = some (if 0 ≤ v ∧ v ≤ sI σ 1 8 then 1 else 0, σ) := by
  unfold f11_isKnownDay
  rw [gd_t (oL1 L), ck2 lt_nle, some_if]
theorem isBerthM_s {σ : St} {v : Int32} : f12_isBerth σ v = some (if 0 ≤ v ∧ v < 72 then 1 else 0, σ) := by
  unfold f12_isBerth
  rw [ck2 lt_nle, some_if]
theorem isDayM_s {σ : St} {v : Int32} : f12_isDay σ v = some (if 0 ≤ v ∧ v ≤ 999 then 1 else 0, σ) := by
  unfold f12_isDay
  rw [ck2 lt_nle, some_if]
theorem within_s {σ : St} {v a b : Int32} : f12_within σ v a b = some (if a ≤ v ∧ v ≤ b then 1 else 0, σ) := by
  unfold f12_within
  rw [ck2 lt_nle, some_if]
theorem isMillM_s {σ : St} (L : Lay σ) {v : Int32} : f12_isMill σ 101 v = some (if 0 ≤ v ∧ v < sI σ 101 5 then 1 else 0, σ) := by
  unfold f12_isMill
  rw [gd_t (oL101 L), ck2 lt_nle, some_if]
theorem isKnown_s {σ : St} (L : Lay σ) {d k : Int32} : f12_isKnown σ 101 d k = some (if (0 ≤ d ∧ d ≤ 999) ∧ (0 ≤ k ∧ k ≤ sI σ 101 14) then 1 else 0, σ) := by
  unfold f12_isKnown
  rw [bd_s isDayM_s, ite_B, gd_t (oL101 L), bd_s within_s, ite_B]
  by_cases h : 0 ≤ d ∧ d ≤ 999
  · rw [if_pos h]
    by_cases g : 0 ≤ k ∧ k ≤ sI σ 101 14
    · rw [if_pos g, if_pos ⟨h, g⟩]
    · rw [if_neg g, if_neg (fun e => g e.2)]
  · rw [if_neg h, if_neg (fun e => h e.1)]
theorem isB_if {p : Prop} [Decidable p] : isB (if p then 1 else 0) = true := by
  by_cases h : p
  · rw [if_pos h]; rfl
  · rw [if_neg h]; rfl
/-- what queries touch of the reference -/
def W0 (a k : Nat) : Prop := a = 101 ∧ k = 0
theorem Fr0 {σ : St} {v : Int32} : Fr W0 σ (wI σ 101 0 v) := Fr_wI Fr_rf (Or.inl ⟨rfl, rfl⟩)
theorem inN {lim : Nat} {x : Int32} {q : Int32} (hq : q = nI lim) (hl : lim < 2147483648) (h : 0 ≤ x ∧ x < q) : ∃ b, b < lim ∧ x = nI b := by
  obtain ⟨h1, h2⟩ := h
  rw [t_le] at h1
  rw [t_lt, hq, nI_toInt hl] at h2
  have h0 : (0 : Int32).toInt = 0 := rfl
  refine ⟨x.toInt.toNat, by omega, ?_⟩
  rw [t_eq, nI_toInt (by omega)]
  omega
/-- beds -/
def gB (σ : St) : Prop := VB σ ∧ RiB σ σ
theorem gB_Fr {W : Nat → Nat → Prop} {σ τ : St} (h : Fr W σ τ) (L : Lay σ) (hw : ∀ a k, a = 3 ∨ a = 102 → ¬ W a k) (g : gB σ) : gB τ := by
  have hN := L.2.2
  have e3 : ∀ k, sI τ 3 k = sI σ 3 k := fun k => Fr_i h (by omega) (hw 3 k (Or.inl rfl))
  have e102 : ∀ k, sI τ 102 k = sI σ 102 k := fun k => Fr_i h (by omega) (hw 102 k (Or.inr rfl))
  constructor
  · intro b hb
    rw [e3]; exact g.1 b hb
  · intro b hb
    rw [e3, e102]; exact g.2 b hb
theorem bed_q {σ : St} (L : Lay σ) (g : gB σ) (b v : Int32) : ∃ r σ1 τ, f11_bed σ 1 b v = some (r, σ1) ∧ f12_bed σ1 101 b v = some (r, τ) ∧ Fr (fun a k => a = 101 ∧ k = 0 ∨ a = 3 ∨ a = 102) σ τ ∧ gB τ := by
  unfold f11_bed
  rw [bd_s isBerth_s, ite_B, bd_s isHeight_s, ite_B]
  have fr0 : Fr (fun a k => a = 101 ∧ k = 0 ∨ a = 3 ∨ a = 102) σ (wI σ 101 0 0) := Fr_wI Fr_rf (Or.inl (Or.inl ⟨rfl, rfl⟩))
  have g0 : gB (wI σ 101 0 0) := gB_Fr Fr0 L (fun a k h q => by unfold W0 at q; omega) g
  by_cases h1 : 0 ≤ b ∧ b < 72
  · rw [if_pos h1]
    by_cases h2 : 0 ≤ v ∧ v ≤ 20
    · rw [if_pos h2]
      obtain ⟨c, hc, rfl⟩ := in72 h1
      rw [gd_t (oL1 L), lt_b, rL1_0 L, gd_t nz_s, gd_t (oL2 L), lt_b, rL2_0 L, gd_t nz_s, gd_t (oL3 L), gd_t (inb_n (lL3 L) hc (by decide)), lt_b, ix_n (by omega)]
      refine ⟨1, _, wI (wI (wI σ 3 c v) 101 0 0) 102 c v, rfl, ?_, ?_, ?_⟩
      · unfold f12_bed
        have L1 : Lay (wI (wI σ 3 c v) 101 0 0) := Lay_wI (Lay_wI L)
        rw [gd_t (oL101 (Lay_wI L)), lt_b, bd_s isBerthM_s, ite_B, if_pos h1, bd_s within_s, ite_B, if_pos h2, lt_b, rL101_1 L1, gd_t nz_s, gd_t (oL102 L1), gd_t (inb_n (lL102 L1) hc (by decide)), lt_b, ix_n (by omega)]
      · exact Fr_wI (Fr_wI (Fr_wI Fr_rf (Or.inl (Or.inr (Or.inl rfl)))) (Or.inl (Or.inl ⟨rfl, rfl⟩))) (Or.inl (Or.inr (Or.inr rfl)))
      · constructor
        · intro b hb
          simp only [sI_wI, Nat.reduceEqDiff, false_and, if_false, true_and]
          by_cases e : b = c
          · rw [if_pos e]
            have a1 := t_le.mp h2.1
            have a2 := t_le.mp h2.2
            exact ⟨a1, a2⟩
          · rw [if_neg e]; exact g.1 b hb
        · intro b hb
          simp only [sI_wI, Nat.reduceEqDiff, false_and, if_false, true_and]
          by_cases e : b = c
          · rw [if_pos e, if_pos e]
          · rw [if_neg e, if_neg e]; exact g.2 b hb
    · rw [if_neg h2]
      refine ⟨0, _, wI σ 101 0 0, rfl, ?_, fr0, g0⟩
      unfold f12_bed
      rw [gd_t (oL101 L), lt_b, bd_s isBerthM_s, ite_B, if_pos h1, bd_s within_s, ite_B, if_neg h2]
  · rw [if_neg h1]
    refine ⟨0, _, wI σ 101 0 0, rfl, ?_, fr0, g0⟩
    unfold f12_bed
    rw [gd_t (oL101 L), lt_b, bd_s isBerthM_s, ite_B, if_neg h1]
/-- tables -/
def gT (σ : St) : Prop := VT σ ∧ RiT σ σ
def fpT (a k : Nat) : Prop := 8 ≤ a ∧ a ≤ 28 ∨ 103 ≤ a ∧ a ≤ 105
theorem gT_Fr {W : Nat → Nat → Prop} {σ τ : St} (h : Fr W σ τ) (L : Lay σ) (hw : ∀ a k, fpT a k → ¬ W a k) (g : gT σ) : gT τ ∧ ∀ t x, t < 7 → valT τ t x = valT σ t x := by
  have hN := L.2.2
  have e : ∀ a k, fpT a k → sI τ a k = sI σ a k := fun a k q => Fr_i h (by unfold fpT at q; omega) (hw a k q)
  have eT : ∀ t, t < 7 → tn τ t = tn σ t := fun t ht => by unfold tn; rw [e _ _ (by unfold fpT; omega)]
  have e9 : ∀ t, t < 7 → sI τ (9 + 3 * t) = sI σ (9 + 3 * t) := fun t ht => funext fun k => e _ _ (by unfold fpT; omega)
  have e10 : ∀ t, t < 7 → sI τ (10 + 3 * t) = sI σ (10 + 3 * t) := fun t ht => funext fun k => e _ _ (by unfold fpT; omega)
  refine ⟨⟨?_, ?_⟩, ?_⟩
  · intro t ht
    have q := g.1 t ht
    rw [eT t ht, e9 t ht, e10 t ht, e _ _ (by unfold fpT; omega)]
    exact q
  · intro t ht
    have q := g.2 t ht
    rw [eT t ht, e9 t ht, e10 t ht, e 103 _ (by unfold fpT; omega)]
    refine ⟨q.1, fun k hk => ?_⟩
    rw [e 104 _ (by unfold fpT; omega), e 105 _ (by unfold fpT; omega)]
    exact q.2 k hk
  · intro t x ht
    unfold valT
    rw [eT t ht, e9 t ht, e10 t ht]
theorem le_lt {x a b : Int32} (h : b.toInt = a.toInt + 1) : x ≤ a ↔ x < b := by rw [t_le, t_lt]; omega
theorem value_q {σ : St} (L : Lay σ) (g : gT σ) (t x : Int32) : ∃ r, f11_value σ 1 t x = some (r, σ) ∧ f12_value σ 101 t x = some (r, wI σ 101 0 0) := by
  have g0 := (gT_Fr (Fr0 (σ := σ) (v := 0)) L (fun a k h q => by unfold fpT at h; unfold W0 at q; omega) g)
  have e2 : f12_value σ 101 t x = if 0 ≤ t ∧ t < 7 then f12_valueOf (wI σ 101 0 0) 101 t x else some (-1, wI σ 101 0 0) := by
    unfold f12_value
    rw [gd_t (oL101 L), lt_b, bd_s within_s, ite_B]
    simp only [le_lt (x := t) (a := 6) (b := 7) rfl]
    by_cases h : 0 ≤ t ∧ t < 7
    · obtain ⟨c, hc, rfl⟩ := inN (lim := 7) rfl (by decide) h
      rw [if_pos h, if_pos h, valueOf_d (Lay_wI L) g0.1.1 g0.1.2 hc, bd_1]
    · rw [if_neg h, if_neg h]
  rw [e2]
  unfold f11_value
  rw [ck2 lt_nle]
  by_cases h : 0 ≤ t ∧ t < 7
  · rw [if_pos h, if_pos h]
    obtain ⟨c, hc, rfl⟩ := inN (lim := 7) rfl (by decide) h
    have hT := lay_tab L hc
    refine ⟨valT σ c x, ?_, ?_⟩
    · rw [gd_t (oL1 L), lt_b, rL1_0 L, gd_t nz_s, gd_t (oL2 L), lt_b, rL2_1 L, gd_t nz_s, gd_t (oL4 L), gd_t (inb_n (lL4 L) hc (by decide)), ix_n (by omega), lt_b, hT.1, gd_t (nz_t (by omega)), gd_t (otab L hc), bd_s (at_v L g.1 hc)]
    · rw [valueOf_d (Lay_wI L) g0.1.1 g0.1.2 hc, g0.2 c x hc]
  · exact ⟨-1, by rw [if_neg h], by rw [if_neg h]⟩
