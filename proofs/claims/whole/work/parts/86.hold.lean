/-! THE LAST RULE THAT HOLDS: both sides are lhF -/
theorem workOut_s {σ : St} (L : Lay σ) {a C R r : Nat} (c : TxC σ a C R) (ok : TxOk σ a C R) (hr : r < R) : ∃ τ, f4_workOut σ 35 a (nI r) = some (evF (sI σ (a + 1)) (sI σ 58) (stF σ a r) (enF σ a r), τ) ∧ Fr (fun x _ => x = 59) σ τ := by
  obtain ⟨⟨o, a153, hC, hR, h6⟩, ⟨r0, r1, r2, r3, r4⟩, oq, lC, lR⟩ := c
  obtain ⟨e1, e2, e3, e4, sg, -⟩ := ok.2 r hr
  have ev := (Sg_ev sg (sI σ 58)).1
  have o1 : ob σ (a + 1) 14 = true := oq 0 (by decide)
  have o3 : ob σ (a + 3) 14 = true := oq 2 (by decide)
  have l3 : (sK σ (a + 3)).2 = R := lR 1 (by decide)
  have key : ∃ τ, f4_workOut_p18 σ 35 a (nI r) 0 (nI (stF σ a r)) = some (evF (sI σ (a + 1)) (sI σ 58) (stF σ a r) (enF σ a r), τ) ∧ Fr (fun x _ => x = 59) σ τ := by
    obtain ⟨τ, w1, w2, w3⟩ := workOut_l (a := a) (c0 := a + 1) (C := C) (sI σ (a + 1)) (sI σ 58) (by omega) (enF σ a r - stF σ a r) (stF σ a r) FU σ [] _ L o r0 (by omega) o1 lC (by omega) (fun _ => rfl) (fun _ _ => rfl) ev trivial (by show 0 ≤ 60; omega) (by omega) (by unfold FU; omega)
    refine ⟨τ, ?_, w2⟩
    rw [← w3.1]
    unfold f4_workOut_p18
    rw [gd_t o, lt_b, r2, gd_t (nz_t (by omega)), gd_t o3, gd_t (inb_n l3 hr (by omega)), lt_b, r0, gd_t (nz_t (by omega)), gd_t o1, bd_s min_s, ix_n (by omega), e1, lC, if_pos (show nI (enF σ a r) ≤ Int32.ofNat C from nI_le e3 (by omega))]
    rw [show stF σ a r + (enF σ a r - stF σ a r) = enF σ a r by omega] at w1
    exact w1
  unfold f4_workOut
  cases r with
  | zero => rw [if_pos (by decide)]; exact key
  | succ k =>
    have e0 := (ok.2 k (by omega)).1
    rw [if_neg (nI_nle (by omega) (by omega)), gd_t o, lt_b, r2, gd_t (nz_t (by omega)), gd_t o3, nI_pred, gd_t (inb_n l3 (by omega) (by omega)), ix_n (by omega), e0]
    exact key
theorem works_s {δ σ : St} (L : Lay σ) {a C R T r : Nat} (c : TxC δ a C R) (ok : TxOk δ a C R) (M : TxM δ σ a C R T) (hr : r < R) : ∃ τ, f12_works σ 101 (nI T) (nI r) = some (evF (sI δ (a + 1)) (sI σ 134) (stF δ a r) (enF δ a r), τ) ∧ Fr (fun x _ => x = 135) σ τ := by
  obtain ⟨⟨o, a153, hC, hR, h6⟩, -⟩ := c
  obtain ⟨e1, e2, e3, e4, sg, -⟩ := ok.2 r hr
  obtain ⟨hT, m1, m2, m3⟩ := M
  obtain ⟨k1, k2, k3, -⟩ := m3 r hr
  have ev := (Sg_ev sg (sI σ 134)).1
  obtain ⟨τ, w1, w2, w3⟩ := works_l (T := T) (r := r) (e := enF δ a r) (sI δ (a + 1)) (sI σ 134) hT (by omega) (by omega) (enF δ a r - stF δ a r) (stF δ a r) FU σ [] _ L k3 (fun k hk => m2 k (by omega)) (fun _ _ => rfl) ev trivial (by show 0 ≤ 60; omega) (by omega) (by unfold FU; omega)
  refine ⟨τ, ?_, w2⟩
  rw [← w3.1]
  have e20 : (20 : Int32) * nI T + nI r = nI (20 * T + r) := by
    have : (20 : Int32) * nI T = nI (20 * T) := pk_mul 20 T
    rw [this, nI_add]
  unfold f12_works
  rw [e20, lt_b, gd_t (oL101 L), lt_b, rL101_29 L, gd_t nz_s, gd_t (oL126 L), gd_t (inb_n (lL126 L) (by omega) (by decide)), lt_b, ix_n (by omega), k2]
  exact w1
def Wlh (x _ : Nat) : Prop := x = 58 ∨ x = 59
theorem TxC_Fr {W : Nat → Nat → Prop} {σ τ : St} {a C R : Nat} (h : Fr W σ τ) (hw : ∀ k, ¬ W a k) (c : TxC σ a C R) : TxC τ a C R := by
  obtain ⟨⟨o, a153, hC, hR, h6⟩, ⟨r0, r1, r2, r3, r4⟩, oq, lC, lR⟩ := c
  have ob' : ∀ x k, ob σ x k = true → ob τ x k = true := fun x k g => by
    obtain ⟨h1, h2, h3⟩ := ob_spec g
    simp only [ob, Bool.and_eq_true, beq_iff_eq, decide_eq_true_eq]
    exact ⟨by rw [h.1 x h3]; exact h1, h2, Nat.le_trans h3 h.2.1⟩
  have ha := (ob_spec o).2.2
  have eK : ∀ q, q < 5 → sK τ (a + 1 + q) = sK σ (a + 1 + q) := fun q hq => h.1 _ (ob_spec (oq q hq)).2.2
  have eR : ∀ k, sR τ a k = sR σ a k := fun k => h.2.2.2.1 a k ha (by omega)
  refine ⟨⟨ob' _ _ o, a153, hC, hR, by rw [Fr_i h ha (hw 6)]; exact h6⟩, ⟨by rw [eR]; exact r0, by rw [eR]; exact r1, by rw [eR]; exact r2, by rw [eR]; exact r3, by rw [eR]; exact r4⟩, fun q hq => ob' _ _ (oq q hq), by rw [eK 0 (by decide)]; exact lC, fun q hq => ?_⟩
  have := eK (q + 1) (by omega)
  rw [show a + 1 + (q + 1) = a + 2 + q by omega] at this
  rw [this]
  exact lR q hq
/-- the words about a text look at its own cells alone -/
theorem tx_cg {σ τ : St} {a : Nat} (e : ∀ q k, q < 5 → sI τ (a + 1 + q) k = sI σ (a + 1 + q) k) : (∀ r, enF τ a r = enF σ a r) ∧ (∀ r, stF τ a r = stF σ a r) ∧ (∀ r, ltF τ a r = ltF σ a r) ∧ ∀ one oth e0 r, lhF τ a one oth e0 r = lhF σ a one oth e0 r := by
  have e1 : sI τ (a + 1) = sI σ (a + 1) := funext fun k => e 0 k (by decide)
  have e2 : sI τ (a + 2) = sI σ (a + 2) := funext fun k => e 1 k (by decide)
  have e3 : sI τ (a + 3) = sI σ (a + 3) := funext fun k => e 2 k (by decide)
  have en : ∀ r, enF τ a r = enF σ a r := fun r => by unfold enF; rw [e3]
  have st : ∀ r, stF τ a r = stF σ a r := fun r => by cases r with | zero => rfl | succ r => exact en r
  have lt : ∀ r, ltF τ a r = ltF σ a r := fun r => by
    induction r with
    | zero => rfl
    | succ r ih => unfold ltF; rw [e2, ih]
  refine ⟨en, st, lt, fun one oth e0 r => ?_⟩
  induction r with
  | zero => rfl
  | succ r ih => unfold lhF; rw [e1, e2, ih, en, st, lt]
theorem TxOk_cg {σ τ : St} {a C R : Nat} (e : ∀ q k, q < 5 → sI τ (a + 1 + q) k = sI σ (a + 1 + q) k) (ok : TxOk σ a C R) : TxOk τ a C R := by
  obtain ⟨en, st, lt, -⟩ := tx_cg e
  have e1 : sI τ (a + 1) = sI σ (a + 1) := funext fun k => e 0 k (by decide)
  have e2 : sI τ (a + 2) = sI σ (a + 2) := funext fun k => e 1 k (by decide)
  have e3 : sI τ (a + 3) = sI σ (a + 3) := funext fun k => e 2 k (by decide)
  have e4 : sI τ (a + 4) = sI σ (a + 4) := funext fun k => e 3 k (by decide)
  have e5 : sI τ (a + 5) = sI σ (a + 5) := funext fun k => e 4 k (by decide)
  unfold TxOk
  simp only [en, st, lt, e1, e2, e3, e4, e5]
  exact ok
theorem TxM_cg {δ ε σ τ : St} {a C R T : Nat} (e : ∀ q k, q < 5 → sI ε (a + 1 + q) k = sI δ (a + 1 + q) k) (f : ∀ x k, x = 120 ∨ 122 ≤ x ∧ x ≤ 127 → sI τ x k = sI σ x k) (M : TxM δ σ a C R T) : TxM ε τ a C R T := by
  obtain ⟨en, st, lt, -⟩ := tx_cg e
  have e1 : sI ε (a + 1) = sI δ (a + 1) := funext fun k => e 0 k (by decide)
  have e2 : sI ε (a + 2) = sI δ (a + 2) := funext fun k => e 1 k (by decide)
  have e4 : sI ε (a + 4) = sI δ (a + 4) := funext fun k => e 3 k (by decide)
  have e5 : sI ε (a + 5) = sI δ (a + 5) := funext fun k => e 4 k (by decide)
  unfold TxM
  simp only [en, st, lt, e1, e2, e4, e5, f 120 _ (by omega), f 122 _ (by omega), f 123 _ (by omega), f 124 _ (by omega), f 125 _ (by omega), f 126 _ (by omega), f 127 _ (by omega)]
  exact M
theorem hold_l {a C R : Nat} (one oth : Int32) (e0 : Nat → Int32) {δ : St} (c : TxC δ a C R) (ok : TxOk δ a C R) : ∀ (j i fuel : Nat) (σ : St), Lay σ → i + j = R → j < fuel → Fr Wlh δ σ → (∀ k, k < 15 → sI σ 58 k = (lhF δ a one oth e0 i).1 k) →
    ∃ τ, f4_lastHolding_p13 fuel σ 35 a one oth (lhF δ a one oth e0 i).2 (nI i) = some ((lhF δ a one oth e0 R).2, τ) ∧ Fr Wlh δ τ ∧ ∀ k, k < 15 → sI τ 58 k = (lhF δ a one oth e0 R).1 k := by
  have a153 := c.1.2.1
  have hR := c.1.2.2.2.1
  intro j
  induction j with
  | zero =>
    intro i fuel σ L hi hf fr he
    obtain ⟨f, rfl, -⟩ := suc_of hf
    have cc := TxC_Fr fr (fun k q => by unfold Wlh at q; omega) c
    have : i = R := by omega
    subst this
    exact ⟨σ, by rw [f4_lastHolding_p13, gd_t cc.1.1, cc.1.2.2.2.2, if_neg (nI_nlt (by omega) (by omega))], fr, he⟩
  | succ j ih =>
    intro i fuel σ L hi hf fr he
    obtain ⟨f, rfl, hf2⟩ := suc_of hf
    have cc := TxC_Fr fr (fun k q => by unfold Wlh at q; omega) c
    have hri : i < R := by omega
    have nA : ∀ q, q < 5 → a + 1 + q ≤ sN δ := fun q hq => (ob_spec (c.2.2.1 q hq)).2.2
    have eA : ∀ q k, q < 5 → sI σ (a + 1 + q) k = sI δ (a + 1 + q) k := fun q k hq => Fr_i fr (nA q hq) (fun w => by unfold Wlh at w; omega)
    have okc := TxOk_cg eA ok
    obtain ⟨en, st, ltt, -⟩ := tx_cg eA
    have e1 : sI σ (a + 1) = sI δ (a + 1) := funext fun k => eA 0 k (by decide)
    have e2 : sI σ (a + 2) = sI δ (a + 2) := funext fun k => eA 1 k (by decide)
    have e4 : sI σ (a + 4) = sI δ (a + 4) := funext fun k => eA 3 k (by decide)
    obtain ⟨τ0, q1, q2⟩ := workOut_s L cc okc hri
    obtain ⟨⟨o, -, hC, -, h6⟩, ⟨r0, r1, r2, r3, r4⟩, oq, lC, lR⟩ := cc
    have o2 : ob σ (a + 2) 14 = true := oq 1 (by decide)
    have o4 : ob σ (a + 4) 14 = true := oq 3 (by decide)
    have l2 : (sK σ (a + 2)).2 = R := lR 0 (by decide)
    have l4 : (sK σ (a + 4)).2 = R := lR 2 (by decide)
    have lt6 : ltF δ a R ≤ 6 := ok.1
    have ltR : ltF δ a (i + 1) ≤ ltF δ a R := ltF_le (by omega)
    have sg := (ok.2 i hri).2.2.2.2.1
    have k256 := (ok.2 i hri).2.2.2.2.2.1
    have evs := (Sg_ev sg (sI σ 58)).2.2 (lhF δ a one oth e0 i).1 (fun s hs => he s (by
      have := ltF_le (δ := δ) (a := a) (show i ≤ R by omega)
      omega))
    rw [e1, en, st, evs] at q1
    have hN := L.2.2
    have fr0 : Fr Wlh δ τ0 := Fr_tr fr (Fr_mo q2 (fun x k w => Or.inr w))
    have L0 := Lay_Fr q2 L
    have k58 : ∀ k, sI τ0 58 k = sI σ 58 k := fun k => Fr_i q2 (by omega) (by decide)
    have stp : lhF δ a one oth e0 (i + 1) = if sI δ (a + 2) i = 256 then (ud (lhF δ a one oth e0 i).1 (9 + ltF δ a i) (evF (sI δ (a + 1)) (lhF δ a one oth e0 i).1 (stF δ a i) (enF δ a i)), (lhF δ a one oth e0 i).2)
      else if (sI δ (a + 2) i = one ∨ sI δ (a + 2) i = oth) ∧ evF (sI δ (a + 1)) (lhF δ a one oth e0 i).1 (stF δ a i) (enF δ a i) ≠ 0 then ((lhF δ a one oth e0 i).1, nI i) else lhF δ a one oth e0 i := rfl
    rw [f4_lastHolding_p13, gd_t o, h6, if_pos (nI_lt hri (by omega)), lt_b, r1, gd_t (nz_t (by omega)), gd_t o2, gd_t (inb_n l2 hri (by omega)), lt_b, ix_n (by omega), e2]
    by_cases h1 : sI δ (a + 2) i = 256
    · rw [if_pos h1] at stp ⊢
      have ltS : ltF δ a (i + 1) = ltF δ a i + 1 := by show (if _ then _ else _) = _; rw [if_pos h1]
      have fi := k256 h1
      rw [lt_b, r3, gd_t (nz_t (by omega)), gd_t o4, gd_t (inb_n l4 hri (by omega)), lt_b, e4, fi, if_neg (nI_pos (by omega)), gd_t (oL35 L), lt_b, rL35_6 L, gd_t nz_s, gd_t (oL58 L), lL58 L, if_pos (show nI (9 + ltF δ a i) < Int32.ofNat 15 from nI_lt (b := 15) (by omega) (by decide)), bd_s q1, gd_t (inb_n (lL58 L0) (by omega) (by decide)), lt_b, ix_n (by omega)]
      unfold f4_lastHolding_p77 f4_lastHolding_p106
      rw [lt_b, nI_1]
      have := ih (i + 1) f (wI τ0 58 (9 + ltF δ a i) (evF (sI δ (a + 1)) (lhF δ a one oth e0 i).1 (stF δ a i) (enF δ a i))) (Lay_wI L0) (by omega) (by omega) (Fr_wI fr0 (Or.inl (Or.inl rfl))) (fun k hk => by
        rw [sI_ws, stp]
        show _ = ud _ _ _ k
        unfold ud
        by_cases w : k = 9 + ltF δ a i
        · rw [if_pos w, if_pos w]
        · rw [if_neg w, if_neg w, k58]; exact he k hk)
      rw [show (lhF δ a one oth e0 (i + 1)).2 = (lhF δ a one oth e0 i).2 by rw [stp]] at this
      exact this
    · rw [if_neg h1] at stp ⊢
      have e92 : sI δ (a + 2) i = one ∨ sI δ (a + 2) i = oth → ∃ τ, f4_lastHolding_p92 (f4_lastHolding_p13 f) σ 35 a one oth (lhF δ a one oth e0 i).2 (nI i) = some ((lhF δ a one oth e0 R).2, τ) ∧ Fr Wlh δ τ ∧ ∀ k, k < 15 → sI τ 58 k = (lhF δ a one oth e0 R).1 k := fun hk => by
        unfold f4_lastHolding_p92
        rw [gd_t (oL35 L), bd_s q1]
        have n0 := ih (i + 1) f τ0 L0 (by omega) (by omega) fr0
        by_cases h2 : evF (sI δ (a + 1)) (lhF δ a one oth e0 i).1 (stF δ a i) (enF δ a i) = 0
        · rw [if_neg (fun w => w.2 h2)] at stp
          rw [if_pos h2]
          unfold f4_lastHolding_p106
          rw [lt_b, nI_1]
          rw [stp] at n0
          exact n0 (fun k hk => by rw [k58]; exact he k hk)
        · rw [if_pos ⟨hk, h2⟩] at stp
          rw [if_neg h2]
          unfold f4_lastHolding_p106
          rw [lt_b, nI_1]
          rw [stp] at n0
          exact n0 (fun k hk => by rw [k58]; exact he k hk)
      by_cases h3 : sI δ (a + 2) i = one
      · rw [if_pos h3]; exact e92 (Or.inl h3)
      · rw [if_neg h3]
        by_cases h4 : sI δ (a + 2) i = oth
        · rw [if_pos h4]; exact e92 (Or.inr h4)
        · rw [if_neg h4]
          rw [if_neg (fun w => by rcases w.1 with w | w; exact h3 w; exact h4 w)] at stp
          have n0 := ih (i + 1) f σ L (by omega) (by omega) fr
          unfold f4_lastHolding_p106
          rw [lt_b, nI_1]
          rw [stp] at n0
          exact n0 he
theorem lhF_lo {δ : St} {a : Nat} (one oth : Int32) (e0 : Nat → Int32) : ∀ r s, s < 9 → (lhF δ a one oth e0 r).1 s = e0 s := by
  intro r
  induction r with
  | zero => intro s _; rfl
  | succ r ih =>
    intro s hs
    unfold lhF
    by_cases h1 : sI δ (a + 2) r = 256
    · rw [if_pos h1]
      show ud _ _ _ s = _
      unfold ud
      rw [if_neg (by omega)]
      exact ih s hs
    · rw [if_neg h1]
      by_cases h2 : (sI δ (a + 2) r = one ∨ sI δ (a + 2) r = oth) ∧ evF (sI δ (a + 1)) (lhF δ a one oth e0 r).1 (stF δ a r) (enF δ a r) ≠ 0
      · rw [if_pos h2]; exact ih s hs
      · rw [if_neg h2]; exact ih s hs
theorem hold_s {σ : St} (L : Lay σ) {a C R : Nat} (c : TxC σ a C R) (ok : TxOk σ a C R) (one oth : Int32) : ∃ τ, f4_lastHolding σ 35 a one oth = some ((lhF σ a one oth (sI σ 58) R).2, τ) ∧ Fr Wlh σ τ ∧ ∀ k, k < 9 → sI τ 58 k = sI σ 58 k := by
  have hR := c.1.2.2.2.1
  unfold f4_lastHolding
  rw [if_neg (show ¬ a = 0 by have := c.1.2.1; omega)]
  obtain ⟨τ, w1, w2, w3⟩ := hold_l one oth (sI σ 58) c ok R 0 FU σ L (by omega) (by unfold FU; omega) Fr_rf (fun _ _ => rfl)
  exact ⟨τ, w1, w2, fun k hk => by rw [w3 k (by omega)]; exact lhF_lo one oth _ R k hk⟩
