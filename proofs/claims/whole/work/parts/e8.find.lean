/-! MOVES found -/
def Wfi (x k : Nat) : Prop := 95 ≤ x ∧ x ≤ 99 ∨ x = 94 ∧ (k = 7 ∨ k = 8 ∨ k = 9)
def Wgo (x k : Nat) : Prop := x = 6 ∨ Wfi x k ∨ x = 101 ∧ k = 0
def restC (σ : St) : Option (Int32 × St) := lt (wI σ 94 9 0) fun t47 => bd (f5_arrange 6 t47 94 0) fun r49 t50 => if r49 = 0 then some (-2, t50) else some (sI t50 94 9, t50)
def restM (ρ : St) (h : Int32) : Option (Int32 × St) := bd (f12_orders 10 ρ 101 0 h) fun r20 t21 => if r20 = 0 then some (-2, t21) else some (sI t21 101 76, t21)
theorem findC_l {n b : Nat} (n6 : n ≤ 6) (bn : b < 2 ^ n) : ∀ (j m fuel : Nat) (σ : St), m + j = 6 → j < fuel → Lay σ → sI σ 78 3 = nI b →
    ∃ σ', Fr (fun x _ => x = 97) σ σ' ∧ ((∀ k, m ≤ k → k < n → bitP (nI b) k = true → sI σ 6 k ≠ -2) → f5_find_p19 fuel σ 94 (nI m) = restC σ' ∧ (∀ k, k < m → sI σ' 97 k = sI σ 97 k) ∧ ∀ k, m ≤ k → k < 6 → sI σ' 97 k = sI σ 6 k) ∧
      ((∃ k, m ≤ k ∧ k < n ∧ bitP (nI b) k = true ∧ sI σ 6 k = -2) → f5_find_p19 fuel σ 94 (nI m) = some (-2, σ')) := by
  have tw := two_le n6
  intro j
  induction j with
  | zero =>
    intro m fuel σ hm hf L h78
    obtain ⟨g, rfl, -⟩ := suc_of hf
    have e : m = 6 := by omega
    subst e
    refine ⟨σ, Fr_rf, fun _ => ⟨?_, fun _ _ => rfl, fun k h1 h2 => absurd h2 (by omega)⟩, fun ⟨k, h1, h2, _⟩ => absurd h2 (by omega)⟩
    rw [f5_find_p19, if_neg (by decide), gd_t (oL94 L)]
    rfl
  | succ j ih =>
    intro m fuel σ hm hf L h78
    obtain ⟨g, rfl, -⟩ := suc_of hf
    have m6 : m < 6 := by omega
    have L1 : Lay (wI σ 97 m (sI σ 6 m)) := Lay_wI L
    have F1 : Fr (fun x _ => x = 97) σ (wI σ 97 m (sI σ 6 m)) := Fr_wI Fr_rf (Or.inl rfl)
    have head : f5_find_p19 (g + 1) σ 94 (nI m) = if bitP (nI b) m = true then (if sI σ 6 m = -2 then some (-2, wI σ 97 m (sI σ 6 m)) else f5_find_p19 g (wI σ 97 m (sI σ 6 m)) 94 (nI (m + 1))) else f5_find_p19 g (wI σ 97 m (sI σ 6 m)) 94 (nI (m + 1)) := by
      have next : f5_find_p65 (f5_find_p19 g) (wI σ 97 m (sI σ 6 m)) 94 (nI m) = f5_find_p19 g (wI σ 97 m (sI σ 6 m)) 94 (nI (m + 1)) := by
        unfold f5_find_p65
        rw [lt_b, nI_1]
      rw [f5_find_p19, if_pos (show nI m < 6 from nI_lt (b := 6) m6 (by decide)), gd_t (oL94 L), lt_b, rL94_4 L, gd_t nz_s, lt_b, rL94_0 L, gd_t nz_s, gd_t (oL2 L), lt_b, rL2_3 L, gd_t nz_s, gd_t (oL6 L), gd_t (inb_n (lL6 L) m6 (by decide)), gd_t (oL97 L), gd_t (inb_n (lL97 L) m6 (by decide)), ix_n (by omega), lt_b, lt_b, rL94_1 L1, gd_t nz_s, gd_t (oL78 L1), bd_s (has6_b L1 (by rw [sI_wo (by decide)]; exact h78) m6), ite_B, next, lt_b, rL94_4 L1, gd_t nz_s, gd_t (oL97 L1), gd_t (inb_n (lL97 L1) m6 (by decide)), sI_w1]
    obtain ⟨σ', a1, a2, a3⟩ := ih (m + 1) g (wI σ 97 m (sI σ 6 m)) (by omega) (by omega) L1 (by rw [sI_wo (by decide)]; exact h78)
    have e6 : ∀ k, sI (wI σ 97 m (sI σ 6 m)) 6 k = sI σ 6 k := fun k => by rw [sI_wo (by decide)]
    by_cases bad : bitP (nI b) m = true ∧ sI σ 6 m = -2
    · refine ⟨_, F1, fun al => ?_, fun _ => by rw [head, if_pos bad.1, if_pos bad.2]⟩
      have mn : m < n := by
        rcases Nat.lt_or_ge m n with w | w
        · exact w
        · have := bit_all b (by omega) n (by omega) bn m m6 w
          rw [bad.1] at this
          exact absurd this (by decide)
      exact absurd bad.2 (al m (Nat.le_refl _) mn bad.1)
    · have hd : f5_find_p19 (g + 1) σ 94 (nI m) = f5_find_p19 g (wI σ 97 m (sI σ 6 m)) 94 (nI (m + 1)) := by
        rw [head]
        by_cases c : bitP (nI b) m = true
        · rw [if_pos c, if_neg (fun w => bad ⟨c, w⟩)]
        · rw [if_neg c]
      refine ⟨σ', Fr_tr F1 a1, fun al => ?_, fun ⟨k, h1, h2, h3, h4⟩ => ?_⟩
      · obtain ⟨c1, c2, c3⟩ := a2 (fun k h1 h2 h3 => by rw [e6]; exact al k (by omega) h2 h3)
        refine ⟨by rw [hd]; exact c1, fun k hk => by rw [c2 k (by omega), sI_wk (by omega)], fun k h1 h2 => ?_⟩
        by_cases e : k = m
        · rw [e, c2 m (by omega), sI_w1]
        · rw [c3 k (by omega) h2, e6]
      · rw [hd]
        refine a3 ⟨k, ?_, h2, h3, by rw [e6]; exact h4⟩
        rcases Nat.lt_or_ge k (m + 1) with lt | ge
        · have : k = m := by omega
          rw [this] at h3 h4
          exact absurd ⟨h3, h4⟩ bad
        · exact ge
theorem findM_l {n b : Nat} {h e : Int32} {f : Nat → Int32} (n6 : n ≤ 6) {ρ : St} (M : Lay ρ) (h5 : sI ρ 101 5 = nI n) (h62 : sI ρ 101 62 = nI b) (h14 : sI ρ 101 14 = e) (hH : f12_heightAt ρ 101 e e = some (h, ρ)) (hf : ∀ k, k < n → sI ρ 109 k = f k) : ∀ (j m fuel : Nat), m + j = n → j < fuel →
    ((∀ k, m ≤ k → k < n → bitP (nI b) k = true → f k ≠ -2) → f12_findMoves_p11 fuel ρ 101 (nI m) = restM ρ h) ∧ ((∃ k, m ≤ k ∧ k < n ∧ bitP (nI b) k = true ∧ f k = -2) → f12_findMoves_p11 fuel ρ 101 (nI m) = some (-2, ρ)) := by
  intro j
  induction j with
  | zero =>
    intro m fuel hm hfu
    obtain ⟨g, rfl, -⟩ := suc_of hfu
    have e' : m = n := by omega
    subst e'
    refine ⟨fun _ => ?_, fun ⟨k, h1, h2, _⟩ => absurd h2 (by omega)⟩
    rw [f12_findMoves_p11, gd_t (oL101 M), h5, if_neg (nI_nlt (by omega) (by omega)), h14, bd_s hH]
    rfl
  | succ j ih =>
    intro m fuel hm hfu
    obtain ⟨g, rfl, -⟩ := suc_of hfu
    obtain ⟨i1, i2⟩ := ih (m + 1) g (by omega) (by omega)
    have next : f12_findMoves_p41 (f12_findMoves_p11 g) ρ 101 (nI m) = f12_findMoves_p11 g ρ 101 (nI (m + 1)) := by
      unfold f12_findMoves_p41
      rw [lt_b, nI_1]
    have head : f12_findMoves_p11 (g + 1) ρ 101 (nI m) = if bitP (nI b) m = true then (if f m = -2 then some (-2, ρ) else f12_findMoves_p11 g ρ 101 (nI (m + 1))) else f12_findMoves_p11 g ρ 101 (nI (m + 1)) := by
      rw [f12_findMoves_p11, gd_t (oL101 M), h5, if_pos (nI_lt (by omega) (by omega)), bd_s (isIn_s M h62 m), ite_B, next, lt_b, rL101_9 M, gd_t nz_s, gd_t (oL109 M), gd_t (inb_n (lL109 M) (by omega) (by decide)), ix_n (by omega), hf m (by omega)]
    by_cases bad : bitP (nI b) m = true ∧ f m = -2
    · refine ⟨fun al => absurd bad.2 (al m (Nat.le_refl _) (by omega) bad.1), fun _ => by rw [head, if_pos bad.1, if_pos bad.2]⟩
    · have hd : f12_findMoves_p11 (g + 1) ρ 101 (nI m) = f12_findMoves_p11 g ρ 101 (nI (m + 1)) := by
        rw [head]
        by_cases c : bitP (nI b) m = true
        · rw [if_pos c, if_neg (fun w => bad ⟨c, w⟩)]
        · rw [if_neg c]
      rw [hd]
      refine ⟨fun al => i1 (fun k h1 h2 h3 => al k (by omega) h2 h3), fun ⟨k, h1, h2, h3, h4⟩ => i2 ⟨k, ?_, h2, h3, h4⟩⟩
      rcases Nat.lt_or_ge k (m + 1) with lt | ge
      · have : k = m := by omega
        rw [this] at h3 h4
        exact absurd ⟨h3, h4⟩ bad
      · exact ge
theorem fc_no {x k : Nat} (h : Wgo x k) : x = 6 ∨ 94 ≤ x ∧ x ≤ 99 ∨ x = 101 ∧ k = 0 := by
  unfold Wgo Wfi at h; omega
/-- what the class finds, and that the reference finds it too, wherever it starts -/
theorem find_q {σ : St} (L : Lay σ) {n d e p q : Nat} (bb : gB σ) (t : gT σ) (g : gM σ n d) (hd : gD σ e) (gk : gKK σ p q) (gq : gQ σ n) :
    ∃ v σ1, f5_find σ 94 (hgF σ p (nI e) (nI e)) = some (v, σ1) ∧ Fr Wfi σ σ1 ∧ ∀ ρ, Fr Wgo σ ρ → ∃ τ, f12_findMoves ρ 101 = some (v, τ) ∧ Fr Wao ρ τ ∧ (∀ k, k < n → sI τ 109 k = sI σ 6 k) ∧
      ((v = -1 ∨ v = -2) ∨ ∃ b fd, (0 < b ∧ b < 2 ^ n) ∧ sI σ 101 62 = nI b ∧ (∀ m, m < n → bitP (nI b) m = true → sI σ 144 m = sI σ 79 m) ∧ v = nI fd ∧ fd ≤ 3 ∧ (∀ k, k < fd → sI σ1 95 k = sI τ 149 k ∧ sI σ1 96 k = sI τ 150 k ∧ ∃ m, m < n ∧ bitP (nI b) m = true ∧ sI σ1 95 k = nI m) ∧ (∀ m, m < n → mpB b (sI σ 79) (sI σ 6) m = true → ∃ k, k < fd ∧ sI σ1 95 k = nI m) ∧ LO n (gF b (sI σ 79) (sI σ 6))) := by
  have hN := L.2.2
  have n6 := g.ri.2.1
  have tw := two_le n6
  have keep : ∀ ρ, Fr Wgo σ ρ → ∀ x k, x ≤ 153 → ¬ (x = 6 ∨ 94 ≤ x ∧ x ≤ 99 ∨ x = 101 ∧ k = 0) → sI ρ x k = sI σ x k := fun ρ F x k h1 h2 => Fr_i F (by omega) (fun w => h2 (fc_no w))
  have there : f6_isThere σ 78 = some (if sI σ 78 3 = 0 then 0 else 1, σ) := by
    unfold f6_isThere
    rw [gd_t (oL78 L)]
    by_cases c : sI σ 78 3 = 0
    · rw [if_pos c, if_pos c]
    · rw [if_neg c, if_neg c]
  rcases gq with ⟨g1, g2⟩ | ⟨g1, b, ⟨b0, bn⟩, g3, g4, g5, g6⟩
  · refine ⟨-1, σ, ?_, Fr_rf, fun ρ F => ⟨ρ, ?_, Fr_rf, fun k hk => ?_, Or.inl (Or.inl rfl)⟩⟩
    · unfold f5_find
      rw [gd_t (oL94 L), lt_b, rL94_1 L, gd_t nz_s, gd_t (oL78 L), bd_s there, if_pos g1, if_pos rfl]
    · have M := Lay_Fr F L
      unfold f12_findMoves
      rw [gd_t (oL101 M), keep ρ F _ _ (by omega) (by omega), if_pos g2]
    · rw [keep ρ F _ _ (by omega) (by omega)]; exact g.li k hk
  · obtain ⟨h, hh0⟩ : ∃ h, hgF σ p (nI e) (nI e) = h := ⟨_, rfl⟩
    have hh : Hh h := by rw [← hh0]; exact hgF_hh gk.1 _ _
    rw [hh0]
    have F0 : Fr Wfi σ (wI σ 94 8 h) := Fr_wI Fr_rf (Or.inl (by unfold Wfi; omega))
    have L0 := Lay_Fr F0 L
    obtain ⟨σ2, a1, a2, a3⟩ := findC_l n6 bn 6 0 FU (wI σ 94 8 h) (by omega) (by unfold FU; omega) L0 (by rw [sI_wo (by decide)]; exact g3)
    have F2 : Fr Wfi σ σ2 := Fr_tr F0 (Fr_mo a1 (fun x k w => by have w' : x = 97 := w; unfold Wfi; omega))
    have nz78 : ¬ sI σ 78 3 = 0 := by
      rw [g3]
      exact fun w => by have := (nI_eq (b := 0) (by omega) (by omega)).mp w; omega
    have headC : f5_find σ 94 h = f5_find_p19 FU (wI σ 94 8 h) 94 0 := by
      unfold f5_find
      rw [gd_t (oL94 L), lt_b, rL94_1 L, gd_t nz_s, gd_t (oL78 L), bd_s there, if_neg nz78, if_neg (by decide), lt_b]
    have e06 : ∀ k, sI (wI σ 94 8 h) 6 k = sI σ 6 k := fun k => by rw [sI_wo (by decide)]
    have PQ : ∀ ρ, Fr Wgo σ ρ → PQr σ n b (sI σ 79) (sI σ 6) ρ := fun ρ F => PQr_Fr (f := sI σ 6) (g := sI σ 6) F (fun x k w v => by have := fc_no v; omega) (fun k hk => by rw [keep ρ F _ _ (by omega) (by omega)]; exact g.li k hk) ⟨⟨⟨L, t.1, t.2, bb.1, bb.2, g.ri⟩, g.li⟩, g4, fun m hm hp => (g6 m hm hp).1.symm⟩
    have headM : ∀ ρ, Fr Wgo σ ρ → f12_findMoves ρ 101 = f12_findMoves_p11 FU ρ 101 0 := fun ρ F => by
      have M := Lay_Fr F L
      unfold f12_findMoves
      rw [gd_t (oL101 M), keep ρ F _ _ (by omega) (by omega), g1, if_neg (by decide)]
    have rowsM : ∀ ρ (F : Fr Wgo σ ρ), _ := fun ρ F => findM_l (b := b) (h := h) (f := sI σ 6) n6 (Lay_Fr F L) (PQ ρ F).1.1.2.2.2.2.2.1 (PQ ρ F).2.1 (show sI ρ 101 14 = nI e by rw [keep ρ F _ _ (by omega) (by omega)]; exact hd.2.1) (by rw [← hh0]; exact heightM (Lay_Fr F L) gk.1 (RiK_Fr F L (fun a k w v => by have := fc_no v; omega) gk.2) (nI e) (nI e)) (PQ ρ F).1.2 n 0 FU (by omega) (by unfold FU; omega)
    by_cases bad : ∃ k, k < n ∧ bitP (nI b) k = true ∧ sI σ 6 k = -2
    · obtain ⟨k, k1, k2, k3⟩ := bad
      refine ⟨-2, σ2, ?_, F2, fun ρ F => ⟨ρ, ?_, Fr_rf, (PQ ρ F).1.2, Or.inl (Or.inr rfl)⟩⟩
      · rw [headC]
        exact a3 ⟨k, by omega, k1, k2, by rw [e06]; exact k3⟩
      · rw [headM ρ F]
        exact (rowsM ρ F).2 ⟨k, by omega, k1, k2, k3⟩
    · have al : ∀ k, k < n → bitP (nI b) k = true → sI σ 6 k ≠ -2 := fun k k1 k2 k3 => bad ⟨k, k1, k2, k3⟩
      obtain ⟨c1, -, c3⟩ := a2 (fun k _ h2 h3 => by rw [e06]; exact al k h2 h3)
      have pf : ∀ m, m < n → bitP (nI b) m = true → sI σ 6 m = -1 ∨ ∃ s, s < 72 ∧ sI σ 6 m = nI s := fun m hm hp => by
        rcases g.lo.1 m hm with w | w
        · exact absurd w (al m hm hp)
        · exact w
      have pp : ∀ m, m < n → bitP (nI b) m = true → sI σ 79 m = -1 ∨ ∃ s, s < 72 ∧ sI σ 79 m = nI s := fun m hm hp => by
        rw [(g6 m hm hp).1]; exact (g6 m hm hp).2
      have F3 : Fr Wfi σ (wI σ2 94 9 0) := Fr_wI F2 (Or.inl (by unfold Wfi; omega))
      have L3 := Lay_Fr F3 L
      have k3 : ∀ x k, x ≤ 153 → ¬ (95 ≤ x ∧ x ≤ 99 ∨ x = 94 ∧ (k = 7 ∨ k = 8 ∨ k = 9)) → sI (wI σ2 94 9 0) x k = sI σ x k := fun x k h1 h2 => Fr_i F3 (by omega) h2
      have PP : PA σ n b h (sI σ 79) (sI σ 6) (wI σ2 94 9 0) := by
        refine ⟨⟨L3, fun x hx => funext fun k => k3 x k (by omega) (by omega), g.sz, n6, ?_, fun k hk => ?_⟩, by rw [k3 _ _ (by omega) (by omega)]; exact g3, bn, fun m hm hp => k3 _ _ (by omega) (by omega)⟩
        · rw [sI_wk (by decide), Fr_i a1 (show 94 ≤ sN (wI σ 94 8 h) by show 94 ≤ sN σ; omega) (by decide), sI_w1]
        · rw [sI_wo (by decide), c3 k (by omega) (by omega), e06]
      have ct : ctP (mpB b (sI σ 79) (sI σ 6)) n ≤ 3 := Nat.le_trans (ctP_le (fun k w => (mpB_t.mp w).1) n) g5
      have A := arr_q (h := h) (δ := σ) hh n6 pp (ctP (mpB b (sI σ 79) (sI σ 6)) n) 0 6 10 (sI σ 6) rfl (by omega) (by omega) (by omega) g.lo pf
      obtain ⟨r, σ4, ρ4, d1, d2, d3, -, d5, -, -, d8⟩ := A _ σ PP (PQ σ Fr_rf)
      have d1' : f5_arrange 6 (wI σ2 94 9 0) 94 0 = some (r, σ4) := d1
      have F4 : Fr Wfi σ σ4 := Fr_tr F3 (Fr_mo d3 (fun x k w => by unfold Wac at w; unfold Wfi; omega))
      have both : ∀ ρ, Fr Wgo σ ρ → ∃ ρ', f12_orders 10 ρ 101 0 h = some (r, ρ') ∧ Fr Wao ρ ρ' ∧ (∀ k, k < n → sI ρ' 109 k = sI σ 6 k) ∧ (r = 0 ∨ r = 1 ∧ FOU n b 0 (sI σ 79) (sI σ 6) σ4 ρ') := fun ρ F => by
        obtain ⟨r', σ', ρ', e1, e2, -, e4, -, e6, -, e8⟩ := A _ ρ PP (PQ ρ F)
        rw [d1] at e1
        have i1 := Option.some.inj e1
        have ir : r = r' := congrArg Prod.fst i1
        have iσ : σ4 = σ' := congrArg Prod.snd i1
        subst ir
        subst iσ
        exact ⟨ρ', e2, e4, e6.1.2, e8⟩
      have eC : f5_find σ 94 h = if r = 0 then some (-2, σ4) else some (sI σ4 94 9, σ4) := by
        have c1' : f5_find_p19 FU (wI σ 94 8 h) 94 0 = restC σ2 := c1
        rw [headC, c1']
        unfold restC
        rw [lt_b, bd_s d1']
      have eM : ∀ ρ, Fr Wgo σ ρ → f12_findMoves ρ 101 = restM ρ h := fun ρ F => by
        rw [headM ρ F]
        exact (rowsM ρ F).1 (fun k _ h2 h3 => al k h2 h3)
      rcases d8 with e | ⟨e, fd, ⟨-, f2⟩, f3, f4, f5, f6, f7⟩
      · refine ⟨-2, σ4, by rw [eC, if_pos e], F4, fun ρ F => ?_⟩
        obtain ⟨ρ', x1, x2, x3, -⟩ := both ρ F
        refine ⟨ρ', ?_, x2, x3, Or.inl (Or.inr rfl)⟩
        rw [eM ρ F]
        unfold restM
        rw [bd_s x1, if_pos e]
      · have n0 : ¬ r = 0 := by rw [e]; decide
        refine ⟨nI fd, σ4, by rw [eC, if_neg n0, f3], F4, fun ρ F => ?_⟩
        obtain ⟨ρ', x1, x2, x3, x4⟩ := both ρ F
        rcases x4 with w | ⟨-, fd', ⟨-, y2⟩, y3, y4, y5, y6, y7⟩
        · exact absurd w n0
        · have efd : fd = fd' := by
            rw [f3] at y3
            exact (nI_eq (by omega) (by omega)).mp y3
          subst efd
          refine ⟨ρ', ?_, x2, x3, Or.inr ⟨b, fd, ⟨b0, bn⟩, g4, fun m hm hp => (g6 m hm hp).1.symm, rfl, f2, fun k hk => y5 k (by omega) hk, fun m hm mp => ?_, f7⟩⟩
          · rw [eM ρ F]
            unfold restM
            rw [bd_s x1, if_neg n0, y4]
          · obtain ⟨k, -, k2, k3⟩ := f6 m hm mp
            exact ⟨k, k2, k3⟩
