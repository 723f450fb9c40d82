/-! Orepeat (first | rw [sI_w1] | rw [sI_wo (by omega)] | rw [sI_wk (by omega)])ER, EVENT -/
theorem take_s {σ : St} (L : Lay σ) {o : Nat} (hn : sI σ 70 9 = nI o) (h60 : o ≤ 60) (s n : Int32) : f3_take σ 70 s n = if o < 60 then some (nI o, wI (wI (wI (wI (wI σ 73 o s) 74 o n) 75 o n) 77 o (-1)) 70 9 (nI (o + 1))) else some (-1, σ) := by
  unfold f3_take
  rw [gd_t (oL70 L), hn]
  by_cases h : o < 60
  · have L1 : Lay (wI σ 73 o s) := L
    have L2 : Lay (wI (wI σ 73 o s) 74 o n) := L
    have L3 : Lay (wI (wI (wI σ 73 o s) 74 o n) 75 o n) := L
    have a1 : sI (wI σ 73 o s) 70 9 = nI o := by (repeat (first | rw [sI_w1] | rw [sI_wo (by omega)] | rw [sI_wk (by omega)])); exact hn
    have a2 : sI (wI (wI σ 73 o s) 74 o n) 70 9 = nI o := by (repeat (first | rw [sI_w1] | rw [sI_wo (by omega)] | rw [sI_wk (by omega)])); exact hn
    have a3 : sI (wI (wI (wI σ 73 o s) 74 o n) 75 o n) 70 9 = nI o := by (repeat (first | rw [sI_w1] | rw [sI_wo (by omega)] | rw [sI_wk (by omega)])); exact hn
    have a4 : sI (wI (wI (wI (wI σ 73 o s) 74 o n) 75 o n) 77 o (-1)) 70 9 = nI o := by (repeat (first | rw [sI_w1] | rw [sI_wo (by omega)] | rw [sI_wk (by omega)])); exact hn
    rw [if_pos (show nI o < 60 from nI_lt (b := 60) h (by decide)), if_pos h, lt_b, rL70_4 L, gd_t nz_s, gd_t (oL73 L), gd_t (inb_n (lL73 L) h (by decide)), ix_n (by omega), lt_b, lt_b, rL70_5 L1, gd_t nz_s, gd_t (oL74 L1), a1, gd_t (inb_n (lL74 L1) h (by decide)), ix_n (by omega), lt_b, lt_b, rL70_6 L2, gd_t nz_s, gd_t (oL75 L2), a2, gd_t (inb_n (lL75 L2) h (by decide)), ix_n (by omega), lt_b, lt_b, rL70_8 L3, gd_t nz_s, gd_t (oL77 L3), a3, gd_t (inb_n (lL77 L3) h (by decide)), ix_n (by omega), lt_b, lt_b, a4, sI_w1, nI_1, nI_pred]
  · rw [if_neg (show ¬ nI o < 60 from nI_nlt (b := 60) (by omega) (by omega)), if_neg h]
theorem order_q {σ : St} (L : Lay σ) {o : Nat} (g : gO σ o) (s n : Int32) : ∃ r σ1 τ o', f11_order σ 1 s n = some (r, σ1) ∧ f12_order σ1 101 s n = some (r, τ) ∧ Fr (fun a k => a = 101 ∧ k = 0 ∨ fpO a k) σ τ ∧ gO τ o' := by
  have go := g.1
  have fr0 : Fr (fun a k => a = 101 ∧ k = 0 ∨ fpO a k) σ (wI σ 101 0 0) := Fr_wI Fr_rf (Or.inl (Or.inl ⟨rfl, rfl⟩))
  have eM : ∀ σ1, Lay σ1 → sI σ1 101 55 = nI o → f12_order σ1 101 s n = if ((0 ≤ s ∧ s < 2) ∧ (1 ≤ n ∧ n ≤ 500)) ∧ o < 60 then some (nI o, wI (wI (wI (wI (wI (wI (wI σ1 101 0 0) 139 o s) 140 o n) 141 o n) 142 o 0) 143 o (-1)) 101 55 (nI (o + 1))) else some (-1, wI σ1 101 0 0) := by
    intro σ1 L1 e55
    have L0 : Lay (wI σ1 101 0 0) := Lay_wI L1
    unfold f12_order
    rw [gd_t (oL101 L1), lt_b, bd_s within_s, ite_B, bd_s within_s, ite_B, sI_wk (j := 55) (by decide), e55]
    simp only [le_lt (x := s) (a := 1) (b := 2) rfl]
    by_cases h1 : 0 ≤ s ∧ s < 2
    · by_cases h2 : 1 ≤ n ∧ n ≤ 500
      · rw [if_pos h1, if_pos h2]
        by_cases h : o < 60
        · have M1 : Lay (wI (wI σ1 101 0 0) 139 o s) := L0
          have M2 : Lay (wI (wI (wI σ1 101 0 0) 139 o s) 140 o n) := L0
          have M3 : Lay (wI (wI (wI (wI σ1 101 0 0) 139 o s) 140 o n) 141 o n) := L0
          have M4 : Lay (wI (wI (wI (wI (wI σ1 101 0 0) 139 o s) 140 o n) 141 o n) 142 o 0) := L0
          have a1 : sI (wI (wI σ1 101 0 0) 139 o s) 101 55 = nI o := by (repeat (first | rw [sI_w1] | rw [sI_wo (by omega)] | rw [sI_wk (by omega)])); exact e55
          have a2 : sI (wI (wI (wI σ1 101 0 0) 139 o s) 140 o n) 101 55 = nI o := by (repeat (first | rw [sI_w1] | rw [sI_wo (by omega)] | rw [sI_wk (by omega)])); exact e55
          have a3 : sI (wI (wI (wI (wI σ1 101 0 0) 139 o s) 140 o n) 141 o n) 101 55 = nI o := by (repeat (first | rw [sI_w1] | rw [sI_wo (by omega)] | rw [sI_wk (by omega)])); exact e55
          have a4 : sI (wI (wI (wI (wI (wI σ1 101 0 0) 139 o s) 140 o n) 141 o n) 142 o 0) 101 55 = nI o := by (repeat (first | rw [sI_w1] | rw [sI_wo (by omega)] | rw [sI_wk (by omega)])); exact e55
          have a5 : sI (wI (wI (wI (wI (wI (wI σ1 101 0 0) 139 o s) 140 o n) 141 o n) 142 o 0) 143 o (-1)) 101 55 = nI o := by (repeat (first | rw [sI_w1] | rw [sI_wo (by omega)] | rw [sI_wk (by omega)])); exact e55
          rw [if_neg (show ¬ nI o = 60 from fun w => by have := (nI_eq (a := o) (b := 60) (by omega) (by omega)).mp w; omega), if_pos ⟨⟨h1, h2⟩, h⟩, lt_b, rL101_56 L0, gd_t nz_s, gd_t (oL139 L0), gd_t (inb_n (lL139 L0) h (by decide)), ix_n (by omega), lt_b, lt_b, rL101_57 M1, gd_t nz_s, gd_t (oL140 M1), a1, gd_t (inb_n (lL140 M1) h (by decide)), ix_n (by omega), lt_b, lt_b, rL101_58 M2, gd_t nz_s, gd_t (oL141 M2), a2, gd_t (inb_n (lL141 M2) h (by decide)), ix_n (by omega), lt_b, lt_b, rL101_59 M3, gd_t nz_s, gd_t (oL142 M3), a3, gd_t (inb_n (lL142 M3) h (by decide)), ix_n (by omega), lt_b, lt_b, rL101_60 M4, gd_t nz_s, gd_t (oL143 M4), a4, gd_t (inb_n (lL143 M4) h (by decide)), ix_n (by omega), lt_b, lt_b, a5, sI_w1, nI_1, nI_pred]
        · rw [if_pos (show nI o = 60 by rw [show o = 60 by omega]; rfl), if_neg (fun q => h q.2)]
      · rw [if_pos h1, if_neg h2, if_neg (fun q => h2 q.1.2)]
    · rw [if_neg h1, if_neg (fun q => h1 q.1.1)]
  have eC : f11_order σ 1 s n = if (0 ≤ s ∧ s < 2) ∧ (1 ≤ n ∧ n ≤ 500) then f3_take σ 70 s n else some (-1, σ) := by
    unfold f11_order
    rw [bd_s isShore_s, ite_B, ck2 lt_nle, gd_t (oL1 L), lt_b, rL1_3 L, gd_t nz_s, gd_t (oL70 L), take_s L g.2.1.1 go]
    by_cases h : o < 60
    · rw [if_pos h, bd_1]
      by_cases h1 : 0 ≤ s ∧ s < 2
      · by_cases h2 : 1 ≤ n ∧ n ≤ 500
        · rw [if_pos h1, if_pos h2, if_pos ⟨h1, h2⟩]
        · rw [if_pos h1, if_neg h2, if_neg (fun q => h2 q.2)]
      · rw [if_neg h1, if_neg (fun q => h1 q.1)]
    · rw [if_neg h, bd_1]
      by_cases h1 : 0 ≤ s ∧ s < 2
      · by_cases h2 : 1 ≤ n ∧ n ≤ 500
        · rw [if_pos h1, if_pos h2, if_pos ⟨h1, h2⟩]
        · rw [if_pos h1, if_neg h2, if_neg (fun q => h2 q.2)]
      · rw [if_neg h1, if_neg (fun q => h1 q.1)]
  by_cases h1 : (0 ≤ s ∧ s < 2) ∧ (1 ≤ n ∧ n ≤ 500)
  · by_cases h : o < 60
    · have sv : s = 0 ∨ s = 1 := by
        obtain ⟨c, hc, rfl⟩ := inN (lim := 2) rfl (by decide) h1.1
        have : c = 0 ∨ c = 1 := by omega
        rcases this with rfl | rfl
        · exact Or.inl rfl
        · exact Or.inr rfl
      have nr := rng h1.2
      refine ⟨nI o, wI (wI (wI (wI (wI σ 73 o s) 74 o n) 75 o n) 77 o (-1)) 70 9 (nI (o + 1)), wI (wI (wI (wI (wI (wI (wI (wI (wI (wI (wI (wI σ 73 o s) 74 o n) 75 o n) 77 o (-1)) 70 9 (nI (o + 1))) 101 0 0) 139 o s) 140 o n) 141 o n) 142 o 0) 143 o (-1)) 101 55 (nI (o + 1)), o + 1, by rw [eC, if_pos h1, take_s L g.2.1.1 go, if_pos h], by rw [eM _ (Lay_wI (Lay_wI (Lay_wI (Lay_wI (Lay_wI L))))) (by (repeat (first | rw [sI_w1] | rw [sI_wo (by omega)] | rw [sI_wk (by omega)])); exact g.2.1.2), if_pos ⟨h1, h⟩], ?_, by omega, ⟨?_, ?_⟩, fun i hi => ?_, fun i q1 q2 => ?_⟩
      · refine Fr_wI (Fr_wI (Fr_wI (Fr_wI (Fr_wI (Fr_wI (Fr_wI (Fr_wI (Fr_wI (Fr_wI (Fr_wI (Fr_wI Fr_rf ?_) ?_) ?_) ?_) ?_) ?_) ?_) ?_) ?_) ?_) ?_) ?_ <;> exact Or.inl (by unfold fpO; omega)
      · repeat (first | rw [sI_w1] | rw [sI_wo (by omega)] | rw [sI_wk (by omega)])
      · repeat (first | rw [sI_w1] | rw [sI_wo (by omega)] | rw [sI_wk (by omega)])
      · by_cases c : i = o
        · subst c
          have w := g.2.2.2 i (Nat.le_refl _) h
          repeat (first | rw [sI_w1] | rw [sI_wo (by omega)] | rw [sI_wk (by omega)])
          refine ⟨⟨rfl, rfl, rfl, w.symm, rfl⟩, sv, ⟨Int.le_trans (by decide) nr.1, nr.2⟩, fun _ => rfl⟩
        · have w := g.2.2.1 i (by omega)
          repeat (first | rw [sI_w1] | rw [sI_wo (by omega)] | rw [sI_wk (by omega)])
          exact w
      · have w := g.2.2.2 i (by omega) q2
        repeat (first | rw [sI_w1] | rw [sI_wo (by omega)] | rw [sI_wk (by omega)])
        exact w
    · exact ⟨-1, σ, wI σ 101 0 0, o, by rw [eC, if_pos h1, take_s L g.2.1.1 go, if_neg h], by rw [eM σ L g.2.1.2, if_neg (fun q => h q.2)], fr0, gO0 L g⟩
  · exact ⟨-1, σ, wI σ 101 0 0, o, by rw [eC, if_neg h1], by rw [eM σ L g.2.1.2, if_neg (fun q => h1 q.1)], fr0, gO0 L g⟩
/-- events -/
def gE (σ : St) (v : Nat) : Prop := v ≤ 300 ∧ (sI σ 68 2 = nI v ∧ sI σ 101 49 = nI v) ∧ ∀ i, i < 5 * v → sI σ 136 i = sI σ 69 i
def fpE (a k : Nat) : Prop := a = 69 ∨ a = 136 ∨ a = 68 ∧ k = 2 ∨ a = 101 ∧ k = 49
theorem gE_Fr {W : Nat → Nat → Prop} {σ τ : St} {v : Nat} (h : Fr W σ τ) (L : Lay σ) (hw : ∀ a k, fpE a k → ¬ W a k) (g : gE σ v) : gE τ v := by
  have hN := L.2.2
  have e : ∀ a k, fpE a k → sI τ a k = sI σ a k := fun a k q => Fr_i h (by unfold fpE at q; omega) (hw a k q)
  refine ⟨g.1, ⟨by rw [e 68 2 (by unfold fpE; omega)]; exact g.2.1.1, by rw [e 101 49 (by unfold fpE; omega)]; exact g.2.1.2⟩, fun i hi => ?_⟩
  rw [e 69 _ (by unfold fpE; omega), e 136 _ (by unfold fpE; omega)]
  exact g.2.2 i hi
theorem event_q {σ : St} (L : Lay σ) {v : Nat} (g : gE σ v) (k w : Int32) : ∃ r, f11_event σ 1 k w = some (r, σ) ∧ f12_event σ 101 k w = some (r, wI σ 101 0 0) := by
  have L0 : Lay (wI σ 101 0 0) := Lay_wI L
  have gv := g.1
  unfold f11_event f12_event f2_told
  rw [gd_t (oL1 L), lt_b, rL1_2 L, gd_t nz_s, gd_t (oL68 L), gd_t (oL68 L), gd_t (oL101 L), g.2.1.1]
  show ∃ r, _ ∧ (if k < 0 then _ else if k < sI (wI σ 101 0 0) 101 49 then _ else _) = _
  rw [sI_wk (by decide), g.2.1.2]
  by_cases h0 : k < 0
  · rw [if_pos h0, if_pos h0]; exact ⟨_, rfl, rfl⟩
  · rw [if_neg h0, if_neg h0]
    by_cases h1 : k < nI v
    · obtain ⟨c, hc, rfl⟩ := inN rfl (by omega) (⟨Int32.not_lt.mp h0, h1⟩ : 0 ≤ k ∧ k < nI v)
      rw [if_pos h1, if_pos h1, ck2 lt_nle, bd_s within_s, ite_B]
      simp only [le_lt (x := w) (a := 4) (b := 5) rfl]
      by_cases h2 : 0 ≤ w ∧ w < 5
      · obtain ⟨j, hj, rfl⟩ := inN (lim := 5) rfl (by decide) h2
        rw [if_pos h2, if_pos h2]
        have e1 : nI c * 5 + nI j = nI (5 * c + j) := by
          have : nI c * 5 = nI (c * 5) := pk_mul c 5
          rw [this, nI_add, Nat.mul_comm]
        have e2 : (5 : Int32) * nI c + nI j = nI (5 * c + j) := by
          have : (5 : Int32) * nI c = nI (5 * c) := pk_mul 5 c
          rw [this, nI_add]
        refine ⟨sI σ 69 (5 * c + j), ?_, ?_⟩
        · rw [lt_b, rL68_1 L, gd_t nz_s, gd_t (oL69 L), e1, gd_t (inb_n (lL69 L) (by omega) (by decide)), ix_n (by omega)]; rfl
        · rw [lt_b, rL101_50 L0, gd_t nz_s, gd_t (oL136 L0), e2, gd_t (inb_n (lL136 L0) (by omega) (by decide)), ix_n (by omega), sI_wo (by decide), g.2.2 _ (by omega)]
      · rw [if_neg h2, if_neg h2]; exact ⟨_, rfl, rfl⟩
    · rw [if_neg h1, if_neg h1]; exact ⟨_, rfl, rfl⟩
