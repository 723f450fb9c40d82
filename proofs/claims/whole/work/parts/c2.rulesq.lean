/-! RULES -/
def Wru (x k : Nat) : Prop := Wra x k ∨ Wrm x k ∨ Wkp x k ∨ x = 1 ∧ k = 7 ∨ x = 101 ∧ (k = 0 ∨ k = 35 ∨ k = 42) ∨ 120 ≤ x ∧ x ≤ 130
def rwT (T x k : Nat) : Prop := x = 120 ∧ 420 * T ≤ k ∧ k < 420 * T + 420 ∨ x = 122 ∧ k = T ∨ 123 ≤ x ∧ x ≤ 127 ∧ 20 * T ≤ k ∧ k < 20 * T + 20
def Wrb (x k : Nat) : Prop := Wra x k ∨ x = 1 ∧ k = 7
def Wrc3 (x k : Nat) : Prop := Wrb x k ∨ Wkp x k
def Wzm (T x k : Nat) : Prop := Wrm x k ∨ Wkm T x k ∨ x = 101 ∧ k = 0
def Wzz (T x k : Nat) : Prop := Wrc3 x k ∨ Wzm T x k
theorem zz_ru {T x k : Nat} (h : Wzz T x k) : Wru x k := by
  rcases h with ((h | h) | h) | (h | h | h)
  · exact Or.inl h
  · exact Or.inr (Or.inr (Or.inr (Or.inl h)))
  · exact Or.inr (Or.inr (Or.inl h))
  · exact Or.inr (Or.inl h)
  · refine Or.inr (Or.inr (Or.inr (Or.inr ?_)))
    rcases h with h | h | h | h
    · exact Or.inl ⟨h.1, by omega⟩
    · exact Or.inr (by unfold Wct at h; omega)
    · exact Or.inr (by omega)
    · exact Or.inr (by omega)
  · exact Or.inr (Or.inr (Or.inr (Or.inr (Or.inl ⟨h.1, by omega⟩))))
theorem zf_ru {x k : Nat} (h : Wrb x k ∨ Wrm x k ∨ x = 101 ∧ (k = 0 ∨ k = 35 ∨ k = 42)) : Wru x k := by
  rcases h with (h | h) | h | h
  · exact Or.inl h
  · exact Or.inr (Or.inr (Or.inr (Or.inl h)))
  · exact Or.inr (Or.inl h)
  · exact Or.inr (Or.inr (Or.inr (Or.inr (Or.inl h))))
theorem RiX_old {W : Nat → Nat → Prop} {σ τ : St} {n : Nat → Nat} (g : gX σ n) {s i : Nat} (hs : s < 2) (hi : i < n s) (e45 : sR τ 45 (12 * s + i) = sR σ 45 (12 * s + i)) (h : Fr W σ τ) (hw : ∀ x k, 153 < x → ¬ W x k) (f : ∀ x k, rwT (12 * s + i) x k → sI τ x k = sI σ x k) : ∀ C R, TxC τ (sR τ 45 (12 * s + i)) C R → TxM τ τ (sR τ 45 (12 * s + i)) C R (12 * s + i) := by
  intro C R c
  obtain ⟨-, C0, R0, c0, -⟩ := (g.1 s hs).2.2 i hi
  have a153 := c0.1.2.1
  have c1 := TxC_Fr h (fun k => hw _ _ a153) c0
  rw [e45] at c ⊢
  obtain ⟨rfl, rfl⟩ := TxC_uq c c1
  exact TxM_row c0.1.2.2.1 c0.1.2.2.2.1 (fun q k hq => Fr_i h (ob_spec (c0.2.2.1 q hq)).2.2 (hw _ _ (by omega))) f (((g.2 s hs).2 i hi).2.2 C R c0)
theorem gX_row {W : Nat → Nat → Prop} {σ τ : St} {n : Nat → Nat} (h : Fr W σ τ) (L : Lay σ) (hw : ∀ x k, fpC x ∨ 128 ≤ x ∧ x ≤ 130 → ¬ W x k) (hr : ∀ x k, x = 120 ∧ k < 10080 ∨ x = 122 ∧ k < 24 ∨ 123 ≤ x ∧ x ≤ 127 ∧ k < 480 → ¬ W x k) (g : gX σ n) : gX τ n := by
  have hN := L.2.2
  refine ⟨gXc_Fr h L (fun x k q => hw x k (Or.inl q)) g.1, fun s hs => ?_⟩
  obtain ⟨m1, m2⟩ := g.2 s hs
  have n12 := (g.1 s hs).1
  refine ⟨by rw [Fr_i h (by omega) (hw _ _ (by omega))]; exact m1, fun i hi => ?_⟩
  obtain ⟨x1, x2, -⟩ := m2 i hi
  refine ⟨?_, ?_, RiX_old g hs hi (h.2.2.1 45 _ (by omega) (hw _ _ (Or.inl (by unfold fpC; omega)))).2.2 h (fun x k q => hw _ _ (Or.inl (by unfold fpC; omega))) (fun x k q => Fr_i h (by unfold rwT at q; omega) (hr _ _ (by unfold rwT at q; omega)))⟩
  · rw [Fr_i h (by omega) (hw _ _ (by omega)), Fr_i h (by omega) (hw _ _ (Or.inl (by unfold fpC; omega)))]; exact x1
  · rw [Fr_i h (by omega) (hw _ _ (by omega)), Fr_i h (by omega) (hw _ _ (Or.inl (by unfold fpC; omega)))]; exact x2
theorem isFull_s {σ : St} (L : Lay σ) {n : Nat → Nat} (g : gXc σ n) {s : Nat} (hs : s < 2) : f4_isFull σ 35 (nI s) = some (if n s < 12 then 0 else 1, σ) := by
  obtain ⟨n12, e3, -⟩ := g s hs
  obtain ⟨r44, ib, lb⟩ := lay_bk L hs
  have ob1 := (lay_book L ib).1
  unfold f4_isFull
  rw [gd_t (oL35 L), lt_b, rL35_3 L, gd_t nz_s, gd_t (oL44 L), gd_t (inb_n (lL44 L) hs (by decide)), lt_b, ix_n (k := s) (by omega), r44, gd_t (nz_t (by omega)), gd_t ob1, e3]
  by_cases q : n s < 12
  · rw [if_pos q, if_pos (show nI (n s) < 12 from nI_lt (b := 12) q (by decide))]
  · rw [if_neg q, if_neg (show ¬ nI (n s) < 12 from nI_nlt (b := 12) (by omega) (by omega))]
theorem rulesM_s {σ : St} {s k : Nat} {v2 : Int32} (M : Lay σ) (hs : s < 2) (hv : 0 ≤ v2 ∧ v2 ≤ 999) (hk : k < 12) (hn : sI σ 130 s = nI k) :
    f12_rules σ 101 (nI s) v2 = bd (f12_next (rs0 (wI σ 101 0 0)) 101) fun r42 t43 => f12_rules_p74 FU t43 101 (nI s) v2 := by
  have h0 : (0 : Int32) ≤ nI s ∧ nI s ≤ 1 := ⟨nI_le (a := 0) (by omega) (by omega), nI_le (b := 1) (by omega) (by decide)⟩
  have M1 : Lay (wI σ 101 0 0) := Lay_wI M
  have M2 : Lay (wI (wI (wI (wI (wI σ 101 0 0) 101 40 0) 101 36 0) 101 43 0) 101 44 0) := Lay_wI (Lay_wI (Lay_wI (Lay_wI M1)))
  have M3 : Lay (wI (wI (wI (wI (wI (wI σ 101 0 0) 101 40 0) 101 36 0) 101 43 0) 101 44 0) 121 24 0) := Lay_wI M2
  unfold f12_rules rs0
  rw [gd_t (oL101 M), lt_b, bd_s within_s, ite_B, if_pos h0, bd_s isDayM_s, ite_B, if_pos hv, lt_b, rL101_33 M1, gd_t nz_s, gd_t (oL130 M1), gd_t (inb_n (lL130 M1) hs (by decide)), ix_n (k := s) (by omega), sI_wo (b := 130) (by decide), hn, if_neg (show ¬ nI k = 12 from fun w => by have := (nI_eq (b := 12) (by omega) (by decide)).mp w; omega), lt_b, lt_b, lt_b, lt_b, lt_b, rL101_24 M2, gd_t nz_s, gd_t (oL121 M2), show (24 : Int32) = nI 24 from rfl, gd_t (inb_n (lL121 M2) (by decide) (by decide)), lt_b, ix_n (k := 24) (by decide), lt_b, rL101_25 M3, gd_t nz_s, gd_t (oL122 M3), gd_t (inb_n (lL122 M3) (by decide) (by decide)), lt_b]
theorem rules_q {σ : St} (L : Lay σ) {n : Nat → Nat} {e s0 : Nat} (G : gG σ) (a : gA σ s0) (hd : gD σ e) (x : gX σ n) (hp : sI σ 46 12 = sI σ 101 42) (v1 v2 : Int32) :
    ∃ r σ1 τ n' s', f11_rules σ 1 v1 v2 = some (r, σ1) ∧ f12_rules σ1 101 v1 v2 = some (r, τ) ∧ Fr Wru σ τ ∧ gA τ s' ∧ gX τ n' ∧ sI τ 46 12 = sI τ 101 42 ∧ sN τ + 6 * (n 0 + n 1) = sN σ + 6 * (n' 0 + n' 1) ∧ sU τ + 487 * (n 0 + n 1) ≤ sU σ + 487 * (n' 0 + n' 1) := by
  have hN := L.2.2
  have M1 : Lay (wI σ 101 0 0) := Lay_wI L
  have fr0 : Fr Wru σ (wI σ 101 0 0) := Fr_wI Fr_rf (Or.inl (by unfold Wru; omega))
  have no : f11_rules σ 1 v1 v2 = some (-1, σ) → f12_rules σ 101 v1 v2 = some (-1, wI σ 101 0 0) → ∃ r σ1 τ n' s', f11_rules σ 1 v1 v2 = some (r, σ1) ∧ f12_rules σ1 101 v1 v2 = some (r, τ) ∧ Fr Wru σ τ ∧ gA τ s' ∧ gX τ n' ∧ sI τ 46 12 = sI τ 101 42 ∧ sN τ + 6 * (n 0 + n 1) = sN σ + 6 * (n' 0 + n' 1) ∧ sU τ + 487 * (n 0 + n 1) ≤ sU σ + 487 * (n' 0 + n' 1) := fun h1 h2 =>
    ⟨-1, σ, wI σ 101 0 0, n, s0, h1, h2, fr0, gA0 L a, gX_Fr (Fr_wI (W := W0) Fr_rf (Or.inl (by unfold W0; omega))) L (fun x k q w => by unfold fpX fpC at q; unfold W0 at w; omega) x, by rw [sI_wo (by decide), sI_wk (by decide)]; exact hp, rfl, Nat.le_refl _⟩
  by_cases h0 : 0 ≤ v1 ∧ v1 < 2
  · by_cases h1 : 0 ≤ v2 ∧ v2 ≤ 999
    · obtain ⟨s, hs, rfl⟩ := inN (lim := 2) rfl (by decide) h0
      obtain ⟨n12, -, -⟩ := x.1 s hs
      have x130 := (x.2 s hs).1
      have h01 : (0 : Int32) ≤ nI s ∧ nI s ≤ 1 := ⟨nI_le (a := 0) (by omega) (by omega), nI_le (b := 1) (by omega) (by decide)⟩
      by_cases h2 : n s < 12
      · obtain ⟨v, σ', b1, b2, w⟩ := read_u L G a.1 (fun i hi => (a.2.2.2 i hi).1) ⟨a.2.2.1, fun i hi => (a.2.2.2 i hi).2⟩
        have L' := Lay_Fr b2 L
        have L2 : Lay (wI σ' 1 7 0) := Lay_wI L'
        have n' := Fr_nu b2 (by unfold Wra Wrc Wtk; omega)
        have eC : f11_rules σ 1 (nI s) v2 = if v = 0 then f4_keep (wI σ' 1 7 0) 35 (nI s) v2 (sI (wI σ' 1 7 0) 1 8) else some (-1 - v, wI σ' 1 7 0) := by
          unfold f11_rules
          rw [bd_s isShore_s, ite_B, if_pos h0, bd_s isDay_s, ite_B, if_pos h1, gd_t (oL1 L), lt_b, rL1_1 L, gd_t nz_s, gd_t (oL35 L), bd_s (isFull_s L x.1 hs), if_pos h2, if_pos rfl, lt_b, rL1_1 L, gd_t nz_s, gd_t (oL35 L), lt_b, rL35_5 L, gd_t nz_s, lt_b, rL1_6 L, gd_t nz_s, gd_t (oL46 L), a.2.1, bd_s b1, lt_b]
          by_cases q : v = 0
          · rw [if_pos q, if_pos q, lt_b, rL1_1 L2, gd_t nz_s, gd_t (oL35 L2)]
            cases f4_keep (wI σ' 1 7 0) 35 (nI s) v2 (sI (wI σ' 1 7 0) 1 8) <;> rfl
          · rw [if_neg q, if_neg q]
        have fb : Fr Wrb σ (wI σ' 1 7 0) := Fr_wI (Fr_mo b2 (fun _ _ h => Or.inl h)) (Or.inl (Or.inr ⟨rfl, rfl⟩))
        have g2 : gXc (wI σ' 1 7 0) n := gXc_Fr fb L (fun x k q => by unfold fpC at q; unfold Wrb Wra Wrc Wtk; omega) x.1
        have kb : ∀ x k, x ≤ 153 → ¬ Wrb x k → sI (wI σ' 1 7 0) x k = sI σ x k := fun x k q1 q2 => Fr_i fb (by omega) q2
        rcases w with ⟨rfl, c, r, hc, hr, h5, h6, ok, h12, run⟩ | ⟨F, F1, F4, rfl, run⟩
        · obtain ⟨σ3, k1, k2, k3, k4, k5, k6, k7, k8, k9, k10, k11⟩ := keep_s L2 g2 hs h2 hc hr (by rw [sI_wo (by decide)]; exact h5) (by rw [sI_wo (by decide)]; exact h6) (TxOk_cg (fun q k _ => sI_wo (by omega) k) ok) v2 (sI (wI σ' 1 7 0) 1 8)
          have L3 := Lay_Fr k2 L2
          have fc : Fr Wrc3 σ σ3 := Fr_tr (Fr_mo fb (fun _ _ h => Or.inl h)) (Fr_mo k2 (fun _ _ h => Or.inr h))
          have kc : ∀ x k, x ≤ 153 → ¬ Wrc3 x k → sI σ3 x k = sI σ x k := fun x k q1 q2 => Fr_i fc (by omega) q2
          have M3 : Lay (wI σ3 101 0 0) := Lay_wI L3
          have T3 : Tpm (sI σ 100) s0 (wI σ3 101 0 0) := ⟨by rw [sI_wk (by decide), kc _ _ (by omega) (by unfold Wrc3 Wrb Wra Wrc Wtk Wkp; omega)]; exact a.2.2.1, fun i hi => by rw [sI_wo (by decide), kc _ _ (by omega) (by unfold Wrc3 Wrb Wra Wrc Wtk Wkp; omega)]; exact (a.2.2.2 i hi).2⟩
          obtain ⟨ρ, N1, g1, e1, m40, m121, m122, m120, mr⟩ := run (nI s) v2 _ M3 T3
          have km : ∀ x k, x ≤ 153 → ¬ Wrm x k → sI ρ x k = sI (wI σ3 101 0 0) x k := fun x k q1 q2 => Fr_i g1 (by have := M3.2.2; omega) q2
          have h130 : ∀ q, sI ρ 130 q = sI σ 130 q := fun q => by rw [km _ _ (by omega) (by unfold Wrm; omega), sI_wo (by decide), kc _ _ (by omega) (by unfold Wrc3 Wrb Wra Wrc Wtk Wkp; omega)]
          obtain ⟨τ, p1, p2, p3, p4, p5, p6, p7, p8, p9, p10, p11⟩ := keepM_s (fr := v2) N1 hs h2 hc hr m40 m121 m122 (by rw [h130]; exact x130)
          have fz : Fr (Wzm (12 * s + n s)) σ3 τ := Fr_tr (Fr_tr (Fr_wI Fr_rf (Or.inl (by unfold Wzm; omega))) (Fr_mo g1 (fun _ _ h => Or.inl h))) (Fr_mo p2 (fun _ _ h => Or.inr (Or.inl h)))
          have ft : Fr (Wzz (12 * s + n s)) σ τ := Fr_tr (Fr_mo fc (fun _ _ h => Or.inl h)) (Fr_mo fz (fun _ _ h => Or.inr h))
          have kz : ∀ x k, x ≤ 153 → ¬ Wzm (12 * s + n s) x k → sI τ x k = sI σ3 x k := fun x k q1 q2 => Fr_i fz (by have := L3.2.2; omega) q2
          have kq : ∀ x k, x ≤ 153 → ¬ Wzz (12 * s + n s) x k → sI τ x k = sI σ x k := fun x k q1 q2 => Fr_i ft (by omega) q2
          have nz := Fr_nu fz (by unfold Wzm Wrm Wkm Wct; omega)
          have nb : sN (wI σ' 1 7 0) = sN σ ∧ sU (wI σ' 1 7 0) = sU σ := n'
          have un : upn n s 0 + upn n s 1 = n 0 + n 1 + 1 := by
            unfold upn
            have : s = 0 ∨ s = 1 := by omega
            rcases this with rfl | rfl
            · rw [if_pos rfl, if_neg (by decide)]; omega
            · rw [if_neg (by decide), if_pos rfl]; omega
          have S : TxS σ' τ 52 (sN (wI σ' 1 7 0) + 1) c r :=
            ⟨fun i hi => by rw [Fr_i fz (by omega) (by unfold Wzm Wrm Wkm Wct; omega), k8.1 i hi, sI_wo (by decide)], fun q hq i hi => by rw [Fr_i fz (by omega) (by unfold Wzm Wrm Wkm Wct; omega), k8.2 q hq i hi, sI_wo (by omega)]⟩
          have e45 : sR τ 45 (12 * s + n s) = sN (wI σ' 1 7 0) + 1 := by rw [(fz.2.2.1 45 _ (by have := L3.2.2; omega) (by unfold Wzm Wrm Wkm Wct; omega)).2.2]; exact k6
          have cn := TxC_Fr fz (fun k => by unfold Wzm Wrm Wkm Wct; omega) k7
          have v8 : sI (wI σ' 1 7 0) 1 8 = nI e := by rw [kb _ _ (by omega) (by unfold Wrb Wra Wrc Wtk; omega)]; exact hd.1
          have v14 : sI ρ 101 14 = nI e := by rw [km _ _ (by omega) (by unfold Wrm; omega), sI_wk (by decide), kc _ _ (by omega) (by unfold Wrc3 Wrb Wra Wrc Wtk Wkp; omega)]; exact hd.2.1
          refine ⟨nI r, σ3, τ, upn n s, 0, by rw [eC, if_pos rfl]; exact k1, by rw [rulesM_s L3 hs h1 h2 (by rw [kc _ _ (by omega) (by unfold Wrc3 Wrb Wra Wrc Wtk Wkp; omega)]; exact x130), e1, p1], Fr_mo ft (fun _ _ => zz_ru), ⟨by omega, ?_, p3, fun i hi => absurd hi (by omega)⟩, ⟨gXc_Fr fz L3 (fun x k q => by unfold fpC at q; unfold Wzm Wrm Wkm Wct; omega) k5, fun s' hs' => ⟨?_, fun i hi => ?_⟩⟩, ?_, ?_, ?_⟩
          · rw [kz _ _ (by omega) (by unfold Wzm Wrm Wkm Wct; omega), Fr_i k2 (by show 1 ≤ sN σ'; have := L'.2.2; omega) (by unfold Wkp; omega), sI_w1]; rfl
          · unfold upn
            by_cases q : s' = s
            · rw [if_pos q, q]; exact p5
            · rw [if_neg q, p6 _ q, h130]; exact (x.2 s' hs').1
          · have n12' := (x.1 s' hs').1
            by_cases new : s' = s ∧ i = n s
            · obtain ⟨rfl, rfl⟩ := new
              refine ⟨?_, ?_, ?_⟩
              · rw [p7, kz _ _ (by omega) (by unfold Wzm Wrm Wkm Wct; omega), k9]
              · rw [p8, kz _ _ (by omega) (by unfold Wzm Wrm Wkm Wct; omega), k10, v14, v8]
              · rw [e45]
                intro C R cc
                obtain ⟨rfl, rfl⟩ := TxC_uq cc cn
                obtain ⟨en, st, -⟩ := TxS_f S
                refine ⟨by omega, p9, fun k hk => by rw [p10 k hk, m120 k hk, S.1 k hk], fun j hj => ?_⟩
                obtain ⟨q1, q2, q3, q4, q5⟩ := mr j hj
                rw [p11 123 (by omega) (by omega) j hj, p11 124 (by omega) (by omega) j hj, p11 125 (by omega) (by omega) j hj, p11 126 (by omega) (by omega) j hj, p11 127 (by omega) (by omega) j hj, TxS_2 S j hj, TxS_4 S j hj, TxS_5 S j hj, en j hj, st j (by omega)]
                exact ⟨q1, q2, q3, q4, q5⟩
            · have hi' : i < n s' := by
                unfold upn at hi
                by_cases q : s' = s
                · rw [if_pos q] at hi
                  have : i ≠ n s := fun w => new ⟨q, w⟩
                  rw [q] at hi ⊢
                  omega
                · rw [if_neg q] at hi; exact hi
              have ne : 12 * s' + i ≠ 12 * s + n s := fun w => new (by
                have : s' = s := by omega
                subst this
                exact ⟨rfl, by omega⟩)
              obtain ⟨x1, x2, -⟩ := (x.2 s' hs').2 i hi'
              obtain ⟨y1, y2, y3⟩ := k11 s' i hs' hi'
              refine ⟨?_, ?_, RiX_old x hs' hi' ?_ ft (fun x k q => by unfold Wzz Wzm Wrm Wkm Wct Wrc3 Wrb Wra Wrc Wtk Wkp; omega) (fun x k q => kq x k (by unfold rwT at q; omega) (by unfold rwT at q; unfold Wzz Wzm Wrm Wkm Wct Wrc3 Wrb Wra Wrc Wtk Wkp; omega))⟩
              · rw [kq 128 _ (by omega) (by unfold Wzz Wzm Wrm Wkm Wct Wrc3 Wrb Wra Wrc Wtk Wkp; omega), kz (61 + 4 * s') _ (by omega) (by unfold Wzm Wrm Wkm Wct; omega), y2, kb _ _ (by omega) (by unfold Wrb Wra Wrc Wtk; omega)]; exact x1
              · rw [kq 129 _ (by omega) (by unfold Wzz Wzm Wrm Wkm Wct Wrc3 Wrb Wra Wrc Wtk Wkp; omega), kz (62 + 4 * s') _ (by omega) (by unfold Wzm Wrm Wkm Wct; omega), y3, kb _ _ (by omega) (by unfold Wrb Wra Wrc Wtk; omega)]; exact x2
              · rw [(fz.2.2.1 45 _ (by have := L3.2.2; omega) (by unfold Wzm Wrm Wkm Wct; omega)).2.2, y1]
                exact (fb.2.2.1 45 _ (by omega) (by unfold Wrb Wra Wrc Wtk; omega)).2.2
          · rw [kz _ _ (by omega) (by unfold Wzm Wrm Wkm Wct; omega), Fr_i k2 (by show 46 ≤ sN σ'; have := L'.2.2; omega) (by unfold Wkp; omega), sI_wo (by decide), h12, p4]
          · omega
          · omega
        · have M2 : Lay (wI (wI σ' 1 7 0) 101 0 0) := Lay_wI L2
          have T2 : Tpm (sI σ 100) s0 (wI (wI σ' 1 7 0) 101 0 0) := ⟨by rw [sI_wk (by decide), kb _ _ (by omega) (by unfold Wrb Wra Wrc Wtk; omega)]; exact a.2.2.1, fun i hi => by rw [sI_wo (by decide), kb _ _ (by omega) (by unfold Wrb Wra Wrc Wtk; omega)]; exact (a.2.2.2 i hi).2⟩
          obtain ⟨ρ, N1, g1, e1, m40, m41⟩ := run (nI s) v2 _ M2 T2
          have ne : nI F ≠ 0 := nI_ne0 (by omega) (by omega)
          have fz : Fr (fun x k => Wrm x k ∨ x = 101 ∧ (k = 0 ∨ k = 35 ∨ k = 42)) (wI σ' 1 7 0) (wI (wI ρ 101 35 0) 101 42 (sI ρ 101 41)) := by
            refine Fr_wI (Fr_wI (Fr_tr (Fr_wI Fr_rf (Or.inl (Or.inr ⟨rfl, Or.inl rfl⟩))) (Fr_mo g1 (fun _ _ h => Or.inl h))) ?_) ?_ <;> exact Or.inl (by omega)
          have ft : Fr (fun x k => Wrb x k ∨ Wrm x k ∨ x = 101 ∧ (k = 0 ∨ k = 35 ∨ k = 42)) σ (wI (wI ρ 101 35 0) 101 42 (sI ρ 101 41)) := Fr_tr (Fr_mo fb (fun _ _ h => Or.inl h)) (Fr_mo fz (fun _ _ h => Or.inr h))
          have nu := Fr_nu ft (by unfold Wrb Wra Wrc Wtk Wrm; omega)
          refine ⟨-1 - nI F, wI σ' 1 7 0, _, n, 0, by rw [eC, if_neg ne], by rw [rulesM_s L2 hs h1 h2 (by rw [kb _ _ (by omega) (by unfold Wrb Wra Wrc Wtk; omega)]; exact x130), e1, faultM_s N1 F1 F4 m40], Fr_mo ft (fun _ _ => zf_ru), ⟨by omega, ?_, ?_, fun i hi => absurd hi (by omega)⟩, gX_row ft L (fun x k q => by unfold fpC at q; unfold Wrb Wra Wrc Wtk Wrm; omega) (fun x k q => by unfold Wrb Wra Wrc Wtk Wrm; omega) x, ?_, by omega, by omega⟩
          · rw [Fr_i fz (by show 1 ≤ sN σ'; have := L'.2.2; omega) (by unfold Wrm; omega), sI_w1]; rfl
          · rw [sI_wk (by decide), sI_w1]; rfl
          · rw [Fr_i fz (by show 46 ≤ sN σ'; have := L'.2.2; omega) (by unfold Wrm; omega), sI_wo (by decide), sI_w1, m41]
      · have n12' : n s = 12 := by omega
        refine no ?_ ?_
        · unfold f11_rules
          rw [bd_s isShore_s, ite_B, if_pos h0, bd_s isDay_s, ite_B, if_pos h1, gd_t (oL1 L), lt_b, rL1_1 L, gd_t nz_s, gd_t (oL35 L), bd_s (isFull_s L x.1 hs), if_neg h2, if_neg (show ¬ (1 : Int32) = 0 by decide)]
        · unfold f12_rules
          rw [gd_t (oL101 L), lt_b, bd_s within_s, ite_B, if_pos h01, bd_s isDayM_s, ite_B, if_pos h1, lt_b, rL101_33 M1, gd_t nz_s, gd_t (oL130 M1), gd_t (inb_n (lL130 M1) hs (by decide)), ix_n (k := s) (by omega), sI_wo (b := 130) (by decide), x130, n12', if_pos (show nI 12 = (12 : Int32) from rfl)]
    · refine no ?_ ?_
      · unfold f11_rules
        rw [bd_s isShore_s, ite_B, if_pos h0, bd_s isDay_s, ite_B, if_neg h1]
      · unfold f12_rules
        rw [gd_t (oL101 L), lt_b, bd_s within_s, ite_B, if_pos ⟨h0.1, (le_lt (x := v1) (a := 1) (b := 2) rfl).mpr h0.2⟩, bd_s isDayM_s, ite_B, if_neg h1]
  · refine no ?_ ?_
    · unfold f11_rules
      rw [bd_s isShore_s, ite_B, if_neg h0]
    · unfold f12_rules
      rw [gd_t (oL101 L), lt_b, bd_s within_s, ite_B, if_neg (fun w => h0 ⟨w.1, (le_lt (x := v1) (a := 1) (b := 2) rfl).mp w.2⟩)]
