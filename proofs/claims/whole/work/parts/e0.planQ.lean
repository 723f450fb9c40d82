theorem se_no {x k : Nat} (h : Wse x k) : x = 58 ∨ x = 59 ∨ 78 ≤ x ∧ x ≤ 93 := by
  unfold Wse Wlh at h; omega
theorem pq_no {x k : Nat} (h : Wpq x k) : x = 58 ∨ x = 59 ∨ 78 ≤ x ∧ x ≤ 93 ∨ x = 101 ∧ (k = 0 ∨ k = 61 ∨ k = 62 ∨ 68 ≤ k ∧ k ≤ 73) ∨ x = 109 ∨ x = 134 ∨ x = 135 ∨ x = 144 ∨ x = 145 ∨ x = 147 ∨ x = 148 := by
  rcases h with h | h
  · have := se_no h; omega
  · unfold Wqm at h; omega
theorem plan_q {σ : St} (L : Lay σ) {n d e p q : Nat} {tx : Nat → Nat} (b : gB σ) (t : gT σ) (g : gM σ n d) (hd : gD σ e) (gk : gKK σ p q) (x : gX σ tx) (gq : gQ σ n) (D B F T : Int32) :
    ∃ r σ1 τ, f11_plan σ 1 D B F T = some (r, σ1) ∧ f12_plan σ1 101 D B F T = some (r, τ) ∧ Fr Wpq σ τ ∧ gM τ n d ∧ gQ τ n := by
  have hN := L.2.2
  have n6 := g.ri.2.1
  obtain ⟨cY, cN⟩ := planC_e L g.sz n6 hd D B F T
  by_cases c : cnP e n B D F T (sI σ 6)
  · obtain ⟨-, pk, cf, ct, c5, c6⟩ := id c
    obtain ⟨fr, hfr, rfl⟩ := inN (lim := 12) rfl (by decide) cf
    obtain ⟨to, hto, rfl⟩ := inN (lim := 12) rfl (by decide) ct
    obtain ⟨bb, hb, rfl⟩ := inN (lim := 2 ^ n) rfl (by have := two_le n6; omega) ⟨Int32.le_of_lt pk.1.1.1, pk.1.1.2⟩
    have tw := two_le n6
    have b0 : 0 < bb := (nI_ltI (a := 0) (by omega) (by omega)).mp pk.1.1.1
    have hft : fr ≤ to := (nI_leI (by omega) (by omega)).mp c5
    have t3 : to ≤ fr + 3 := by
      have e1 : (nI to - nI fr).toInt = (to : Int) - fr := pk_sub_toInt (by omega) (by omega)
      have := t_lt.mp c6
      rw [e1] at this
      have e4 : (4 : Int32).toInt = 4 := rfl
      omega
    have no : ∀ m, n ≤ m → m < 6 → ¬ bitP (nI bb) m = true := fun k h1 h2 => by
      rw [bit_all bb (by omega) n (by omega) hb k h2 h1]; decide
    have w3 : ctP (bitP (nI bb)) 6 ≤ 3 := by rw [ctP_gap n6 no]; exact pk.1.2
    obtain ⟨wy, hwy⟩ : ∃ wy : Nat → Nat, ∀ s, wayF σ tx p s D (nI e) = nI (wy s) ∧ wy s ≤ 6 := by
      refine ⟨fun s => (wayF σ tx p s D (nI e)).toInt.toNat, fun s => ?_⟩
      obtain ⟨w, h1, h2⟩ := wayF_n x.1 p s D (nI e)
      have h3 : (wayF σ tx p s D (nI e)).toInt.toNat = w := by rw [h2, nI_toInt (by omega)]; rfl
      show _ = nI ((wayF σ tx p s D (nI e)).toInt.toNat) ∧ (wayF σ tx p s D (nI e)).toInt.toNat ≤ 6
      rw [h3]
      exact ⟨h2, h1⟩
    have TP := gM_TP t g
    obtain ⟨σ1, a1, a2, a3, a4⟩ := searchC_s (d := D) (k := nI e) (B := nI bb) (my := myF σ tx p (hgF σ p D (nI e)) D (nI e)) L TP g.sz g.lo.1 x.1 gk.1 (by omega) hft t3 w3 no hwy (fun m u _ _ => ⟨fun w => of_decide_eq_true w, fun w => decide_eq_true w⟩)
    have F1 : Fr Wpq σ σ1 := Fr_mo a2 (fun _ _ w => Or.inl w)
    have L1 := Lay_Fr F1 L
    have k1 : ∀ x k, x ≤ 153 → ¬ Wse x k → sI σ1 x k = sI σ x k := fun x k h1 h2 => Fr_i a2 (by omega) h2
    have q1 : ∀ x k, x ≤ 153 → ¬ (x = 58 ∨ x = 59 ∨ 78 ≤ x ∧ x ≤ 93) → sI σ1 x k = sI σ x k := fun x k h1 h2 => k1 x k h1 (fun w => h2 (se_no w))
    have F2 : Fr Wpq σ (wI σ1 101 0 0) := Fr_wI F1 (Or.inl (Or.inr (Or.inl ⟨rfl, Or.inl rfl⟩)))
    have M := Lay_Fr F2 L
    have R : RR σ (wI σ1 101 0 0) n p q tx := RR_Fr F2 L (fun y k w v => by have := pq_no v; omega) (gM_RR b g gk x)
    have V : RiV σ (wI σ1 101 0 0) n := RiV_Fr F2 (fun a k w v => by have := pq_no v; omega) ⟨L, t.1, t.2, b.1, b.2, g.ri⟩
    obtain ⟨τ, c1, c2, c3, c4, c5', c6'⟩ := goM_s (e := e) (B := nI bb) (D := D) M R V g (by rw [sI_wk (by decide), q1 _ _ (by omega) (by omega)]; exact hd.2.1) (fun m hm => by rw [sI_wo (by decide), q1 _ _ (by omega) (by omega)]; exact g.li m hm) (show to ≤ 11 by omega) hft hwy
    have eqs := RM_eq (wg := wgF σ n (bitP (nI bb)) (hgF σ p D (nI e)) (icB (icF σ q D (nI e))) fr to wy) (p := bitP (nI bb)) (cd := caF n fr to (myF σ tx p (hgF σ p D (nI e)) D (nI e))) n 0 (f0B σ (nI bb)) (-1, sI (wI σ1 101 0 0) 144) (-1, sI σ 93) ⟨rfl, Or.inl rfl⟩
    have rge := RM_ge (wg := wgF σ n (bitP (nI bb)) (hgF σ p D (nI e)) (icB (icF σ q D (nI e))) fr to wy) (p := bitP (nI bb)) (cd := caF n fr to (myF σ tx p (hgF σ p D (nI e)) D (nI e))) n 0 (f0B σ (nI bb)) (-1, sI σ 93)
    have rP := RM_P (wg := wgF σ n (bitP (nI bb)) (hgF σ p D (nI e)) (icB (icF σ q D (nI e))) fr to wy) (p := bitP (nI bb)) (cd := caF n fr to (myF σ tx p (hgF σ p D (nI e)) D (nI e))) (n := n) (fun f => ∀ m, m < n → bitP (nI bb) m = true → f m = -1 ∨ ∃ u, u < 72 ∧ f m = nI u) (fun m u f _ _ hu _ P k hk hp => by
      show ud f m (nI u) k = -1 ∨ ∃ u', u' < 72 ∧ ud f m (nI u) k = nI u'
      unfold ud
      by_cases ek : k = m
      · rw [if_pos ek]; exact Or.inr ⟨u, hu, rfl⟩
      · rw [if_neg ek]; exact P k hk hp) n 0 (f0B σ (nI bb)) (-1, sI σ 93) (by omega) (fun m _ hp => by unfold f0B; rw [if_pos hp]; exact Or.inl rfl) (Or.inl rfl)
    obtain ⟨X, hX⟩ : ∃ X, RM (wgF σ n (bitP (nI bb)) (hgF σ p D (nI e)) (icB (icF σ q D (nI e))) fr to wy) (bitP (nI bb)) (caF n fr to (myF σ tx p (hgF σ p D (nI e)) D (nI e))) n 0 (f0B σ (nI bb)) (-1, sI σ 93) = X := ⟨_, rfl⟩
    obtain ⟨Y, hY⟩ : ∃ Y, RM (wgF σ n (bitP (nI bb)) (hgF σ p D (nI e)) (icB (icF σ q D (nI e))) fr to wy) (bitP (nI bb)) (caF n fr to (myF σ tx p (hgF σ p D (nI e)) D (nI e))) n 0 (f0B σ (nI bb)) (-1, sI (wI σ1 101 0 0) 144) = Y := ⟨_, rfl⟩
    rw [hX] at a1 a3 a4 rge rP eqs
    rw [hY] at c1 c5' c6' eqs
    have kτ : ∀ x k, x ≤ 153 → ¬ Wqm x k → sI τ x k = sI σ1 x k := fun y k h1 h2 => by
      rw [Fr_i c2 (show y ≤ sN σ1 by have := L1.2.2; omega) h2, sI_wI, if_neg (fun w => h2 (Or.inl ⟨w.1, Or.inl w.2⟩))]
    have FF : Fr Wpq σ τ := Fr_tr F2 (Fr_mo c2 (fun _ _ w => Or.inr w))
    have e79 : ∀ k, sI τ 79 k = sI σ1 79 k := fun k => kτ _ _ (by omega) (by unfold Wqm; omega)
    have e78 : sI τ 78 3 = sI σ1 78 3 := kτ _ _ (by omega) (by unfold Wqm; omega)
    refine ⟨X.1, σ1, τ, by rw [cY c]; exact a1, ?_, FF, gM_put FF L (fun a k w h9 v => by have := pq_no v; unfold fpM at w; omega) c3 g, ?_⟩
    · rw [(planM_e L1 (e := e) (f := sI σ 6) (by rw [q1 _ _ (by omega) (by omega)]; exact g.ri.1) n6 (by rw [q1 _ _ (by omega) (by omega)]; exact hd.2.1) (fun m hm => by rw [q1 _ _ (by omega) (by omega)]; exact g.li m hm) D (nI bb) (nI fr) (nI to)).1 c, c1, eqs.1]
    · by_cases cX : X.1 = -1
      · refine Or.inl ⟨?_, ?_⟩
        · rw [e78, a3, if_pos (by rw [cX]; decide)]
        · rw [c5', if_pos (by rw [eqs.1, cX])]
      · have cY' : ¬ Y.1 = -1 := by rw [eqs.1]; exact cX
        have same : Y.2 = X.2 := eqs.2.resolve_left cY'
        have ge0 : ¬ X.1 < 0 := fun w => by
          have w2 := t_lt.mp w
          have z : (0 : Int32).toInt = 0 := rfl
          have z1 : (-1 : Int32).toInt = -1 := rfl
          have z2 : ((-1, sI σ 93) : Int32 × (Nat → Int32)).1.toInt = -1 := rfl
          exact cX (t_eq.mpr (by omega))
        have P := rP.resolve_left cX
        refine Or.inr ⟨by rw [c5', if_neg cY'], bb, ⟨b0, hb⟩, by rw [e78, a3, if_neg ge0], c4, pk.1.2, fun m hm hp => ?_⟩
        rw [e79, a4 m hm, c6' m hm, same]
        exact ⟨rfl, P m hm hp⟩
  · have F0 : Fr Wpq σ (wI σ 101 0 0) := Fr_wI Fr_rf (Or.inl (Or.inr (Or.inl ⟨rfl, Or.inl rfl⟩)))
    refine ⟨-1, σ, wI σ 101 0 0, cN c, (planM_e L (e := e) (f := sI σ 6) g.ri.1 n6 hd.2.1 g.li D B F T).2 c, F0, gM0 L g, ?_⟩
    have F00 : Fr W0 σ (wI σ 101 0 0) := Fr0
    exact gQ_Fr F00 L (fun y k w v => by unfold W0 at v; omega) gq
theorem has6_s {σ : St} (L : Lay σ) (m : Int32) : f6_has σ 78 m = some (if (0 ≤ m ∧ m < 6) ∧ ((sI σ 78 3) >>> (m &&& 31)) &&& 1 = 1 then 1 else 0, σ) := by
  unfold f6_has
  by_cases c1 : m < 0
  · rw [if_pos c1, if_neg (fun w => Int32.not_le.mpr c1 w.1.1)]
  · rw [if_neg c1]
    by_cases c2 : m < 6
    · rw [if_pos c2, gd_t (oL78 L)]
      by_cases c3 : ((sI σ 78 3) >>> (m &&& 31)) &&& 1 = 1
      · rw [if_pos c3, if_pos ⟨⟨Int32.not_lt.mp c1, c2⟩, c3⟩]
      · rw [if_neg c3, if_neg (fun w => c3 w.2)]
    · rw [if_neg c2, if_neg (fun w => c2 w.1.2)]
theorem has6_b {σ : St} (L : Lay σ) {b m : Nat} (h : sI σ 78 3 = nI b) (hm : m < 6) : f6_has σ 78 (nI m) = some (if bitP (nI b) m = true then 1 else 0, σ) := by
  rw [has6_s L, h]
  by_cases c : bitP (nI b) m = true
  · rw [if_pos c, if_pos ⟨⟨nI_pos' (by omega), nI_lt (b := 6) hm (by decide)⟩, of_decide_eq_true c⟩]
  · rw [if_neg c, if_neg (fun w => c (decide_eq_true w.2))]
theorem planned_q {σ : St} (L : Lay σ) {n d : Nat} (g : gM σ n d) (gq : gQ σ n) (m : Int32) :
    ∃ r σ1 τ, f11_planned σ 1 m = some (r, σ1) ∧ f12_planned σ1 101 m = some (r, τ) ∧ Fr W0 σ τ := by
  have n6 := g.ri.2.1
  have M0 : Lay (wI σ 101 0 0) := Lay_wI L
  have F0 : Fr W0 σ (wI σ 101 0 0) := Fr0
  have c0 : f11_planned σ 1 m = if (0 ≤ m ∧ m < 6) ∧ ((sI σ 78 3) >>> (m &&& 31)) &&& 1 = 1 then (gd (inb σ 79 m) (some (sI σ 79 (ix m), σ))) else some (-2, σ) := by
    unfold f11_planned
    rw [gd_t (oL1 L), lt_b, rL1_4 L, gd_t nz_s, gd_t (oL78 L), bd_s (has6_s L m), ite_B, lt_b, rL1_4 L, gd_t nz_s, gd_t (oL78 L), lt_b, rL78_2 L, gd_t nz_s, gd_t (oL79 L)]
  have m0 : f12_planned σ 101 m = if sI σ 101 61 = 0 then some (-2, wI σ 101 0 0) else if 0 ≤ m ∧ m < nI n then (bd (f12_isIn (wI σ 101 0 0) 101 m) fun r10 t11 => if r10 = 0 then some (-2, t11) else lt (sR t11 101 63) fun b15 => gd (nz b15) (gd (ob t11 b15 14) (gd (inb t11 b15 m) (some (sI t11 b15 (ix m), t11))))) else some (-2, wI σ 101 0 0) := by
    unfold f12_planned
    rw [gd_t (oL101 L), lt_b, sI_wk (by decide), bd_s (isMillM_s M0), ite_B, sI_wk (by decide), g.ri.1]
  rcases gq with ⟨g1, g2⟩ | ⟨g1, b, ⟨b0, bn⟩, g3, g4, g5, g6⟩
  · refine ⟨-2, σ, _, ?_, by rw [m0, if_pos g2], F0⟩
    rw [c0, if_neg]
    intro w
    obtain ⟨mm, hm, rfl⟩ := inN (lim := 6) rfl (by decide) w.1
    have := w.2
    rw [g1] at this
    have z : ∀ k, k < 6 → ¬ (((0 : Int32) >>> (nI k &&& 31)) &&& 1 = 1) := by decide +kernel
    exact z mm hm this
  · have tw := two_le n6
    have no : ¬ sI σ 101 61 = 0 := by rw [g1]; decide
    by_cases cm : 0 ≤ m ∧ m < nI n
    · obtain ⟨mm, hm, rfl⟩ := inN (lim := n) rfl (by omega) cm
      have isn := isIn_s (ρ := wI σ 101 0 0) M0 (B := nI b) (by rw [sI_wk (by decide)]; exact g4) mm
      by_cases c : bitP (nI b) mm = true
      · refine ⟨sI σ 79 mm, σ, _, ?_, ?_, F0⟩
        · rw [c0, if_pos ⟨⟨nI_pos' (by omega), nI_lt (b := 6) (by omega) (by decide)⟩, by rw [g3]; exact of_decide_eq_true c⟩, gd_t (inb_n (lL79 L) (by omega) (by decide)), ix_n (by omega)]
        · rw [m0, if_neg no, if_pos cm, bd_s isn, if_pos c, if_neg (by decide), lt_b, rL101_63 M0, gd_t nz_s, gd_t (oL144 M0), gd_t (inb_n (lL144 M0) (by omega) (by decide)), ix_n (by omega), sI_wo (by decide), (g6 mm hm c).1]
      · refine ⟨-2, σ, _, ?_, ?_, F0⟩
        · rw [c0, if_neg (fun w => c (decide_eq_true (by have := w.2; rw [g3] at this; exact this)))]
        · rw [m0, if_neg no, if_pos cm, bd_s isn, if_neg c, if_pos rfl]
    · refine ⟨-2, σ, _, ?_, by rw [m0, if_neg no, if_neg cm], F0⟩
      rw [c0, if_neg]
      intro w
      obtain ⟨mm, hm, rfl⟩ := inN (lim := 6) rfl (by decide) w.1
      have ge : n ≤ mm := by
        rcases Nat.lt_or_ge mm n with h | h
        · exact absurd ⟨w.1.1, nI_lt h (by omega)⟩ cm
        · exact h
      have := w.2
      rw [g3] at this
      have nb := bit_all b (by omega) n (by omega) bn mm hm ge
      rw [show bitP (nI b) mm = true from decide_eq_true this] at nb
      exact absurd nb (by decide)
