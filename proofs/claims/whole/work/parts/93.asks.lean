/-! BARRED, WORD, WAY, KEPT -/
theorem frs0 {σ : St} : Fr Wsy σ (wI σ 101 0 0) := Fr_wI Fr_rf (Or.inl (Or.inl ⟨rfl, rfl⟩))
theorem barred_q {σ : St} (L : Lay σ) {nm d p q e : Nat} {n : Nat → Nat} (b : gB σ) (g : gM σ nm d) (hd : gD σ e) (gk : gKK σ p q) (x : gX σ n) (m u dd k : Int32) : ∃ r σ1 τ, f11_barred σ 1 m u dd k = some (r, σ1) ∧ f12_barred σ1 101 m u dd k = some (r, τ) ∧ Fr Wsy σ τ := by
  have n6 := g.ri.2.1
  have eC : f11_barred σ 1 m u dd k = if 0 ≤ m ∧ m < nI nm then (if 0 ≤ u ∧ u < 72 then (if 0 ≤ dd ∧ dd ≤ 999 then (if 0 ≤ k ∧ k ≤ nI e then f4_standing σ 35 m u dd k else some (-1, σ)) else some (-1, σ)) else some (-1, σ)) else some (-1, σ) := by
    unfold f11_barred
    rw [gd_t (oL1 L), lt_b, rL1_0 L, gd_t nz_s, gd_t (oL2 L), bd_s (has_s L), ite_B, bd_s isBerth_s, ite_B, bd_s isDay_s, ite_B, bd_s (isKnownDay_s L), ite_B, lt_b, rL1_1 L, gd_t nz_s, gd_t (oL35 L), g.sz, hd.1]
    cases f4_standing σ 35 m u dd k <;> rfl
  have eM : ∀ σ1, Fr Wlh σ σ1 → f12_barred σ1 101 m u dd k = if 0 ≤ m ∧ m < nI nm then (if 0 ≤ u ∧ u < 72 then (if (0 ≤ dd ∧ dd ≤ 999) ∧ 0 ≤ k ∧ k ≤ nI e then f12_barredBy (wI σ1 101 0 0) 101 m u dd k else some (-1, wI σ1 101 0 0)) else some (-1, wI σ1 101 0 0)) else some (-1, wI σ1 101 0 0) := by
    intro σ1 f
    have hN := L.2.2
    obtain ⟨L1, R1⟩ := RR_go L b g gk x f
    have L1' := Lay_Fr f L
    have e14 : sI (wI σ1 101 0 0) 101 14 = nI e := by rw [sI_wk (by decide), Fr_i f (by omega) (by unfold Wlh; omega)]; exact hd.2.1
    unfold f12_barred
    rw [gd_t (oL101 L1'), lt_b, bd_s (isMillM_s L1), ite_B, bd_s isBerthM_s, ite_B, bd_s (isKnown_s L1), ite_B, R1.2.2.1.1, e14]
    cases f12_barredBy (wI σ1 101 0 0) 101 m u dd k <;> rfl
  by_cases h1 : 0 ≤ m ∧ m < nI nm
  · by_cases h2 : 0 ≤ u ∧ u < 72
    · by_cases h3 : 0 ≤ dd ∧ dd ≤ 999
      · by_cases h4 : 0 ≤ k ∧ k ≤ nI e
        · obtain ⟨m, hm, rfl⟩ := inN rfl (by omega) h1
          obtain ⟨u, hu, rfl⟩ := in72 h2
          obtain ⟨σ1, a1, a2⟩ := standing_s L gk.1 x.1 (m := m) (by omega) hu dd k
          obtain ⟨L1, R1⟩ := RR_go L b g gk x a2
          obtain ⟨τ, c1, c2⟩ := barredBy_s L1 R1 hm hu dd k
          refine ⟨_, σ1, τ, by rw [eC, if_pos h1, if_pos h2, if_pos h3, if_pos h4]; exact a1, by rw [eM σ1 a2, if_pos h1, if_pos h2, if_pos ⟨h3, h4⟩]; exact c1, Fr_tr (Fr_wI (Fr_mo a2 (fun _ _ => lh_sy)) (Or.inl (Or.inl ⟨rfl, rfl⟩))) (Fr_mo c2 (fun _ _ => la_sy))⟩
        · exact ⟨-1, σ, _, by rw [eC, if_pos h1, if_pos h2, if_pos h3, if_neg h4], by rw [eM σ Fr_rf, if_pos h1, if_pos h2, if_neg (fun w => h4 w.2)], frs0⟩
      · exact ⟨-1, σ, _, by rw [eC, if_pos h1, if_pos h2, if_neg h3], by rw [eM σ Fr_rf, if_pos h1, if_pos h2, if_neg (fun w => h3 w.1)], frs0⟩
    · exact ⟨-1, σ, _, by rw [eC, if_pos h1, if_neg h2], by rw [eM σ Fr_rf, if_pos h1, if_neg h2], frs0⟩
  · exact ⟨-1, σ, _, by rw [eC, if_neg h1], by rw [eM σ Fr_rf, if_neg h1], frs0⟩
theorem word_q {σ : St} (L : Lay σ) {nm d p q e : Nat} {n : Nat → Nat} (b : gB σ) (g : gM σ nm d) (hd : gD σ e) (gk : gKK σ p q) (x : gX σ n) (s m u dd k : Int32) : ∃ r σ1 τ, f11_word σ 1 s m u dd k = some (r, σ1) ∧ f12_word σ1 101 s m u dd k = some (r, τ) ∧ Fr Wsy σ τ := by
  have n6 := g.ri.2.1
  have eC : f11_word σ 1 s m u dd k = if 0 ≤ s ∧ s < 2 then (if 0 ≤ m ∧ m < nI nm then (if 0 ≤ u ∧ u < 72 then (if 0 ≤ dd ∧ dd ≤ 999 then (if 0 ≤ k ∧ k ≤ nI e then f4_wordRule σ 35 s m u dd k else some (-1, σ)) else some (-1, σ)) else some (-1, σ)) else some (-1, σ)) else some (-1, σ) := by
    unfold f11_word
    rw [bd_s isShore_s, ite_B, gd_t (oL1 L), lt_b, rL1_0 L, gd_t nz_s, gd_t (oL2 L), bd_s (has_s L), ite_B, bd_s isBerth_s, ite_B, bd_s isDay_s, ite_B, bd_s (isKnownDay_s L), ite_B, lt_b, rL1_1 L, gd_t nz_s, gd_t (oL35 L), g.sz, hd.1]
    cases f4_wordRule σ 35 s m u dd k <;> rfl
  have eM : ∀ σ1, Fr Wlh σ σ1 → f12_word σ1 101 s m u dd k = if 0 ≤ s ∧ s < 2 then (if 0 ≤ m ∧ m < nI nm then (if 0 ≤ u ∧ u < 72 then (if (0 ≤ dd ∧ dd ≤ 999) ∧ 0 ≤ k ∧ k ≤ nI e then f12_wordOf (wI σ1 101 0 0) 101 s m u dd k else some (-1, wI σ1 101 0 0)) else some (-1, wI σ1 101 0 0)) else some (-1, wI σ1 101 0 0)) else some (-1, wI σ1 101 0 0) := by
    intro σ1 f
    have hN := L.2.2
    obtain ⟨L1, R1⟩ := RR_go L b g gk x f
    have L1' := Lay_Fr f L
    have e14 : sI (wI σ1 101 0 0) 101 14 = nI e := by rw [sI_wk (by decide), Fr_i f (by omega) (by unfold Wlh; omega)]; exact hd.2.1
    unfold f12_word
    rw [gd_t (oL101 L1'), lt_b, bd_s within_s, ite_B, bd_s (isMillM_s L1), ite_B, bd_s isBerthM_s, ite_B, bd_s (isKnown_s L1), ite_B, R1.2.2.1.1, e14]
    simp only [le_lt (x := s) (a := 1) (b := 2) rfl]
    cases f12_wordOf (wI σ1 101 0 0) 101 s m u dd k <;> rfl
  by_cases h0 : 0 ≤ s ∧ s < 2
  · by_cases h1 : 0 ≤ m ∧ m < nI nm
    · by_cases h2 : 0 ≤ u ∧ u < 72
      · by_cases h3 : 0 ≤ dd ∧ dd ≤ 999
        · by_cases h4 : 0 ≤ k ∧ k ≤ nI e
          · obtain ⟨s, hs, rfl⟩ := inN (lim := 2) rfl (by decide) h0
            obtain ⟨m, hm, rfl⟩ := inN rfl (by omega) h1
            obtain ⟨u, hu, rfl⟩ := in72 h2
            obtain ⟨σ1, a1, a2⟩ := wordRule_s L gk.1 x.1 hs (m := m) (by omega) hu dd k
            obtain ⟨L1, R1⟩ := RR_go L b g gk x a2
            obtain ⟨τ, c1, c2⟩ := wordOf_s L1 R1 hs hm hu dd k
            refine ⟨_, σ1, τ, by rw [eC, if_pos h0, if_pos h1, if_pos h2, if_pos h3, if_pos h4]; exact a1, by rw [eM σ1 a2, if_pos h0, if_pos h1, if_pos h2, if_pos ⟨h3, h4⟩]; exact c1, Fr_tr (Fr_wI (Fr_mo a2 (fun _ _ => lh_sy)) (Or.inl (Or.inl ⟨rfl, rfl⟩))) (Fr_mo c2 (fun _ _ => la_sy))⟩
          · exact ⟨-1, σ, _, by rw [eC, if_pos h0, if_pos h1, if_pos h2, if_pos h3, if_neg h4], by rw [eM σ Fr_rf, if_pos h0, if_pos h1, if_pos h2, if_neg (fun w => h4 w.2)], frs0⟩
        · exact ⟨-1, σ, _, by rw [eC, if_pos h0, if_pos h1, if_pos h2, if_neg h3], by rw [eM σ Fr_rf, if_pos h0, if_pos h1, if_pos h2, if_neg (fun w => h3 w.1)], frs0⟩
      · exact ⟨-1, σ, _, by rw [eC, if_pos h0, if_pos h1, if_neg h2], by rw [eM σ Fr_rf, if_pos h0, if_pos h1, if_neg h2], frs0⟩
    · exact ⟨-1, σ, _, by rw [eC, if_pos h0, if_neg h1], by rw [eM σ Fr_rf, if_pos h0, if_neg h1], frs0⟩
  · exact ⟨-1, σ, _, by rw [eC, if_neg h0], by rw [eM σ Fr_rf, if_neg h0], frs0⟩
theorem way_q {σ : St} (L : Lay σ) {nm d p q e : Nat} {n : Nat → Nat} (b : gB σ) (g : gM σ nm d) (hd : gD σ e) (gk : gKK σ p q) (x : gX σ n) (s dd k : Int32) : ∃ r σ1 τ, f11_way σ 1 s dd k = some (r, σ1) ∧ f12_way σ1 101 s dd k = some (r, τ) ∧ Fr Wsy σ τ := by
  have n6 := g.ri.2.1
  have eC : f11_way σ 1 s dd k = if 0 ≤ s ∧ s < 12 then (if 0 ≤ dd ∧ dd ≤ 999 then (if 0 ≤ k ∧ k ≤ nI e then f4_wayOn σ 35 s dd k else some (-1, σ)) else some (-1, σ)) else some (-1, σ) := by
    unfold f11_way
    rw [bd_s isStretch_s, ite_B, bd_s isDay_s, ite_B, gd_t (oL1 L), bd_s (isKnownDay_s L), ite_B, lt_b, rL1_1 L, gd_t nz_s, gd_t (oL35 L), hd.1]
    cases f4_wayOn σ 35 s dd k <;> rfl
  have eM : ∀ σ1, Fr Wlh σ σ1 → f12_way σ1 101 s dd k = if 0 ≤ s ∧ s < 12 then (if (0 ≤ dd ∧ dd ≤ 999) ∧ 0 ≤ k ∧ k ≤ nI e then f12_wayOf (wI σ1 101 0 0) 101 s dd k else some (-1, wI σ1 101 0 0)) else some (-1, wI σ1 101 0 0) := by
    intro σ1 f
    have hN := L.2.2
    obtain ⟨L1, R1⟩ := RR_go L b g gk x f
    have L1' := Lay_Fr f L
    have e14 : sI (wI σ1 101 0 0) 101 14 = nI e := by rw [sI_wk (by decide), Fr_i f (by omega) (by unfold Wlh; omega)]; exact hd.2.1
    unfold f12_way
    rw [gd_t (oL101 L1'), lt_b, bd_s within_s, ite_B, bd_s (isKnown_s L1), ite_B, e14]
    simp only [le_lt (x := s) (a := 11) (b := 12) rfl]
    cases f12_wayOf (wI σ1 101 0 0) 101 s dd k <;> rfl
  by_cases h0 : 0 ≤ s ∧ s < 12
  · by_cases h3 : 0 ≤ dd ∧ dd ≤ 999
    · by_cases h4 : 0 ≤ k ∧ k ≤ nI e
      · obtain ⟨s, hs, rfl⟩ := inN (lim := 12) rfl (by decide) h0
        obtain ⟨σ1, a1, a2⟩ := wayOn_s (s0 := s) L gk.1 x.1 dd k
        obtain ⟨L1, R1⟩ := RR_go L b g gk x a2
        obtain ⟨τ, c1, c2⟩ := wayOf_s (s0 := s) L1 R1 dd k
        refine ⟨_, σ1, τ, by rw [eC, if_pos h0, if_pos h3, if_pos h4]; exact a1, by rw [eM σ1 a2, if_pos h0, if_pos ⟨h3, h4⟩]; exact c1, Fr_tr (Fr_wI (Fr_mo a2 (fun _ _ => lh_sy)) (Or.inl (Or.inl ⟨rfl, rfl⟩))) (Fr_mo c2 (fun _ _ => la_sy))⟩
      · exact ⟨-1, σ, _, by rw [eC, if_pos h0, if_pos h3, if_neg h4], by rw [eM σ Fr_rf, if_pos h0, if_neg (fun w => h4 w.2)], frs0⟩
    · exact ⟨-1, σ, _, by rw [eC, if_pos h0, if_neg h3], by rw [eM σ Fr_rf, if_pos h0, if_neg (fun w => h3 w.1)], frs0⟩
  · exact ⟨-1, σ, _, by rw [eC, if_neg h0], by rw [eM σ Fr_rf, if_neg h0], frs0⟩
theorem heightToday_s {σ : St} (L : Lay σ) {p q e : Nat} (hd : gD σ e) (gk : gK σ p q) : f11_heightToday σ 1 = some (hgF σ p (nI e) (nI e), σ) := by
  unfold f11_heightToday
  rw [gd_t (oL1 L), lt_b, rL1_1 L, gd_t nz_s, gd_t (oL35 L), lt_b, rL35_1 L, gd_t nz_s, gd_t (oL36 L), hd.1, bd_s (heightC L gk _ _)]
theorem opF_cg {δ ε : St} {n s : Nat} {f g : Nat → Int32} {h : Int32} (hs : s < 12) (e3 : ∀ b, b < 72 → sI ε 3 b = sI δ 3 b) (ef : ∀ m, m < n → g m = f m) : ∀ i, i < 6 → opF ε n g s h i = opF δ n f s h i := by
  intro i hi
  unfold opF
  rw [e3 _ (by omega), lyF_congr n 0 (fun k _ hk => ef k (by omega))]
theorem kept_q {σ : St} (L : Lay σ) {nm d p q e : Nat} {n : Nat → Nat} (b : gB σ) (g : gM σ nm d) (hd : gD σ e) (gk : gKK σ p q) (x : gX σ n) (s : Int32) : ∃ r σ1 τ, f11_kept σ 1 s = some (r, σ1) ∧ f12_kept σ1 101 s = some (r, τ) ∧ Fr Wsy σ τ := by
  have n6 := g.ri.2.1
  have hN := L.2.2
  by_cases h0 : 0 ≤ s ∧ s < 12
  · obtain ⟨s, hs, rfl⟩ := inN (lim := 12) rfl (by decide) h0
    obtain ⟨σ1, a1, a2⟩ := wayOn_s (s0 := s) L gk.1 x.1 (nI e) (nI e)
    obtain ⟨L1, R1⟩ := RR_go L b g gk x a2
    have L1' := Lay_Fr a2 L
    obtain ⟨τ, c1, c2⟩ := wayOf_s (s0 := s) L1 R1 (nI e) (nI e)
    obtain ⟨w, hw, ew⟩ := wayF_n x.1 p s (nI e) (nI e)
    have hd1 : gD σ1 e := gD_Fr a2 L (fun a k q => by unfold Wlh; omega) hd
    have gk1 : gK σ1 p q := gK_Fr a2 L (fun a k q1 q2 => by unfold Wlh; omega) gk.1
    have hh1 := (hgF_Fr a2 L (fun a k q1 q2 => by unfold Wlh; omega) p q (nI e) (nI e)).1
    have ht := heightToday_s L1' hd1 gk1
    have hh := hgF_hh gk.1 (nI e) (nI e)
    rw [hh1] at ht
    have sz1 : sI σ1 2 5 = nI nm := by rw [Fr_i a2 (by omega) (by unfold Wlh; omega)]; exact g.sz
    have fr0 : Fr Wsy σ (wI σ1 101 0 0) := Fr_wI (Fr_mo a2 (fun _ _ => lh_sy)) (Or.inl (Or.inl ⟨rfl, rfl⟩))
    have io := isOpen_s (h := hgF σ p (nI e) (nI e)) L1' sz1 n6 (oL6 L1') (lL6 L1') hs (w := w) (by omega)
    have fl := freeLanes_s L1 R1.1.1 R1.2.1 R1.2.2.1.1 n6 hs hh
    have mc : mostF (opF σ1 nm (sI σ1 6) s (hgF σ p (nI e) (nI e))) 6 = mostF (opF σ nm (sI (wI σ1 101 0 0) 109) s (hgF σ p (nI e) (nI e))) 6 := mostF_cg 6 (opF_cg hs (fun b hb => Fr_i a2 (by omega) (by unfold Wlh; omega)) (fun m hm => by
      rw [sI_wo (by decide), Fr_i a2 (a := 109) (by omega) (by unfold Wlh; omega), Fr_i a2 (a := 6) (by omega) (by unfold Wlh; omega)]
      exact (g.li m hm).symm))
    rw [mc] at io
    have mle := mostF_le (o := opF σ nm (sI (wI σ1 101 0 0) 109) s (hgF σ p (nI e) (nI e))) 6
    generalize mostF (opF σ nm (sI (wI σ1 101 0 0) 109) s (hgF σ p (nI e) (nI e))) 6 = mm at io fl mle
    rw [ew] at a1 c1
    refine ⟨if w ≤ mm then 1 else 0, σ1, τ, ?_, ?_, Fr_tr fr0 (Fr_mo c2 (fun _ _ => la_sy))⟩
    · unfold f11_kept
      rw [bd_s isStretch_s, ite_B, if_pos h0, gd_t (oL1 L), lt_b, rL1_1 L, gd_t nz_s, gd_t (oL35 L), hd.1, bd_s a1, lt_b, rL1_0 L1', gd_t nz_s, gd_t (oL2 L1'), lt_b, rL2_3 L1', gd_t nz_s, bd_s ht, bd_s io]
      by_cases c : w ≤ mm
      · rw [if_pos c, if_neg (by decide)]
      · rw [if_neg c, if_pos rfl]
    · have e14 : sI (wI σ1 101 0 0) 101 14 = nI e := by rw [sI_wk (by decide), Fr_i a2 (by omega) (by unfold Wlh; omega)]; exact hd.2.1
      unfold f12_kept
      rw [gd_t (oL101 L1'), lt_b, bd_s within_s, ite_B]
      simp only [le_lt (x := nI s) (a := 11) (b := 12) rfl]
      rw [if_pos h0, e14, bd_s (heightM L1 R1.1.2.1 R1.2.2.2.1 _ _), bd_s fl, e14, bd_s c1]
      by_cases c : w ≤ mm
      · rw [if_pos c, if_neg (nI_nlt c (by omega))]
      · rw [if_neg c, if_pos (nI_lt (by omega) (by omega))]
  · refine ⟨-1, σ, wI σ 101 0 0, ?_, ?_, frs0⟩
    · unfold f11_kept
      rw [bd_s isStretch_s, ite_B, if_neg h0]
    · unfold f12_kept
      rw [gd_t (oL101 L), lt_b, bd_s within_s, ite_B]
      simp only [le_lt (x := s) (a := 11) (b := 12) rfl]
      rw [if_neg h0]
