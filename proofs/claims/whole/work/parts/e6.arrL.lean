/-! ORDERS, both at once -/
def Wac (x k : Nat) : Prop := 95 ≤ x ∧ x ≤ 99 ∨ x = 94 ∧ (k = 7 ∨ k = 9)
def Wao (x k : Nat) : Prop := x = 109 ∨ 149 ≤ x ∧ x ≤ 152 ∨ x = 101 ∧ k = 76
/-- what an order found says -/
def FOU (n b lv : Nat) (pt f : Nat → Int32) (σ ρ : St) : Prop := ∃ fd, (lv ≤ fd ∧ fd ≤ 3) ∧ sI σ 94 9 = nI fd ∧ sI ρ 101 76 = nI fd ∧ (∀ k, lv ≤ k → k < fd → sI σ 95 k = sI ρ 149 k ∧ sI σ 96 k = sI ρ 150 k ∧ ∃ m, m < n ∧ bitP (nI b) m = true ∧ sI σ 95 k = nI m) ∧
  (∀ m, m < n → mpB b pt f m = true → ∃ k, lv ≤ k ∧ k < fd ∧ sI σ 95 k = nI m) ∧ LO n (gF b pt f)
/-- both have come to an answer -/
def DON (δ : St) (n b lv : Nat) (h : Int32) (pt f : Nat → Int32) (σ ρ : St) (x : Option (Int32 × St)) (y : Option (Int32 × St)) : Prop :=
  ∃ r σ' ρ', x = some (r, σ') ∧ y = some (r, ρ') ∧ Fr Wac σ σ' ∧ Fr Wao ρ ρ' ∧ PA δ n b h pt f σ' ∧ PQr δ n b pt f ρ' ∧ (∀ k, k < lv → sI σ' 95 k = sI σ 95 k ∧ sI σ' 96 k = sI σ 96 k ∧ sI ρ' 149 k = sI ρ 149 k ∧ sI ρ' 150 k = sI ρ 150 k) ∧ (r = 0 ∨ r = 1 ∧ FOU n b lv pt f σ' ρ')
theorem DON_tr {δ σ ρ σ1 ρ1 : St} {n b lv : Nat} {h : Int32} {pt f : Nat → Int32} {x y : Option (Int32 × St)} (F : Fr Wac σ σ1) (G : Fr Wao ρ ρ1) (e : ∀ k, k < lv → sI σ1 95 k = sI σ 95 k ∧ sI σ1 96 k = sI σ 96 k ∧ sI ρ1 149 k = sI ρ 149 k ∧ sI ρ1 150 k = sI ρ 150 k) (D : DON δ n b lv h pt f σ1 ρ1 x y) : DON δ n b lv h pt f σ ρ x y := by
  obtain ⟨r, σ', ρ', a1, a2, a3, a4, a5, a6, a7, a8⟩ := D
  refine ⟨r, σ', ρ', a1, a2, Fr_tr F a3, Fr_tr G a4, a5, a6, fun k hk => ?_, a8⟩
  obtain ⟨c1, c2, c3, c4⟩ := a7 k hk
  obtain ⟨d1, d2, d3, d4⟩ := e k hk
  exact ⟨by rw [c1, d1], by rw [c2, d2], by rw [c3, d3], by rw [c4, d4]⟩
theorem bf_ac {x k : Nat} (h : Wbf x k) : Wac x k := by unfold Wbf at h; unfold Wac; omega
theorem bm_ao {x k : Nat} (h : Wbm x k) : Wao x k := by unfold Wbm at h; unfold Wao; omega
theorem PA_ac {δ σ τ : St} {n b : Nat} {h : Int32} {pt f g : Nat → Int32} (F : Fr Wac σ τ) (e : ∀ k, k < n → sI τ 97 k = g k) (c : PA δ n b h pt f σ) : PA δ n b h pt g τ := PA_Fr F (fun x k w v => by unfold Wac at v; omega) e c
theorem PQ_ao {δ ρ ρ' : St} {n b : Nat} {pt f g : Nat → Int32} (F : Fr Wao ρ ρ') (e : ∀ k, k < n → sI ρ' 109 k = g k) (c : PQr δ n b pt f ρ) : PQr δ n b pt g ρ' := PQr_Fr F (fun x k w v => by unfold Wao at v; omega) e c
/-- steps to a mill's place: both say the same -/
theorem steps_q {δ σ ρ : St} {n b m : Nat} {h : Int32} {pt f : Nat → Int32} (P : PA δ n b h pt f σ) (Q : PQr δ n b pt f ρ) (hh : Hh h) (hm : m < n) (fm : f m = -1 ∨ ∃ s, s < 72 ∧ f m = nI s) (pm : pt m = -1 ∨ ∃ s, s < 72 ∧ pt m = nI s) (ne : f m ≠ pt m) :
    ∃ r σ' ρ', f5_fewestSteps σ 94 (nI m) (pt m) = some (r, σ') ∧ f12_stepsTo ρ 101 (nI m) (pt m) h = some (r, ρ') ∧ Fr Wbf σ σ' ∧ Fr Wbm ρ ρ' ∧ PA δ n b h pt f σ' ∧ PQr δ n b pt f ρ' ∧ (r ≠ -1 → pt m = -1 ∨ ∃ u, u < 72 ∧ pt m = nI u ∧ ∀ q, q < n → q ≠ m → f q ≠ pt m) := by
  have n6 := P.1.2.2.2.1
  obtain ⟨r, σ', a1, a2, a3, a4⟩ := few_s (tv := pt m) P.1 hm fm
  obtain ⟨r', ρ', c1, c2, c3, c4⟩ := stepsM_s (tv := pt m) Q.1 hh hm fm
  have e := RES_one a4 c4
  subst e
  refine ⟨r, σ', ρ', a1, c1, a2, c2, PA_Fr a2 (fun x k w v => by unfold Wbf at v; omega) a3.2.2.2.2.2 P, PQr_Fr c2 (fun x k w v => by unfold Wbm at v; omega) c3.2 Q, fun hr => ?_⟩
  rcases pm with e | ⟨u, hu, e⟩
  · exact Or.inl e
  · refine Or.inr ⟨u, hu, e, ?_⟩
    rcases a4 with ⟨k, v, -, hv, tv, rk, -, -⟩ | ⟨-, w⟩
    · have ev : v = u := by
        rcases tv with w | ⟨w, -⟩
        · rw [e] at w
          exact ((nI_eq (by omega) (by omega)).mp w).symm
        · rw [e] at w; exact absurd w (nI_nm (by omega))
      rw [ev] at rk
      have ok : okF δ n f h m u := by
        rcases Rk_or k u rk with w | w
        · rcases w with w | ⟨-, w, -⟩
          · exact absurd (by rw [w, e]) ne
          · exact w
        · exact w
      intro q hq _
      rw [e]
      exact (ly_no n6).mp ok.1 q hq
    · exact absurd w hr
theorem LO_mv {n b m : Nat} {pt f : Nat → Int32} (l : LO n f) (pm : pt m = -1 ∨ ∃ u, u < 72 ∧ pt m = nI u ∧ ∀ q, q < n → q ≠ m → f q ≠ pt m) : LO n (ud f m (pt m)) := by
  refine LO_set (m := m) (b := pt m) l (fun q => rfl) ?_
  rcases pm with e | ⟨u, hu, e, h⟩
  · exact Or.inr (Or.inl e)
  · exact Or.inr (Or.inr ⟨⟨u, hu, e⟩, h⟩)
/-- one mill moved: what must hold of the orders behind it -/
def ARR (δ : St) (n b : Nat) (h : Int32) (pt : Nat → Int32) (F : St → Nat → Int32 → Option (Int32 × St)) (G : St → Nat → Int32 → Int32 → Option (Int32 × St)) (lv : Nat) (f : Nat → Int32) : Prop :=
  ∀ σ ρ, PA δ n b h pt f σ → PQr δ n b pt f ρ → DON δ n b lv h pt f σ ρ (F σ 94 (nI lv)) (G ρ 101 (nI lv) h)
theorem with_q {δ σ ρ : St} {n b m lv : Nat} {h : Int32} {pt f : Nat → Int32} (F : St → Nat → Int32 → Option (Int32 × St)) (G : St → Nat → Int32 → Int32 → Option (Int32 × St)) (K : St → Nat → Int32 → Int32 → Int32 → Option (Int32 × St)) (P : PA δ n b h pt f σ) (Q : PQr δ n b pt f ρ) (hh : Hh h) (hm : m < n) (hl : lv < 3) (mp : mpB b pt f m = true) (l : LO n f)
    (pf : ∀ m, m < n → bitP (nI b) m = true → f m = -1 ∨ ∃ s, s < 72 ∧ f m = nI s) (pp : ∀ m, m < n → bitP (nI b) m = true → pt m = -1 ∨ ∃ s, s < 72 ∧ pt m = nI s) (IH : LO n (ud f m (pt m)) → ARR δ n b h pt F G (lv + 1) (ud f m (pt m))) :
    ∃ r σ1 ρ1, f5_arrangeWith F σ 94 (nI m) (nI lv) = some (r, σ1) ∧ (∀ fuel, f12_orders_p62 G (fuel + 1) ρ 101 (nI lv) h (nI m) = if r = 0 then f12_orders_p62 G fuel ρ1 101 (nI lv) h (nI (m + 1)) else some (1, ρ1)) ∧ Fr Wac σ σ1 ∧ Fr Wao ρ ρ1 ∧ PA δ n b h pt f σ1 ∧ PQr δ n b pt f ρ1 ∧
      (∀ k, k < lv → sI σ1 95 k = sI σ 95 k ∧ sI σ1 96 k = sI σ 96 k ∧ sI ρ1 149 k = sI ρ 149 k ∧ sI ρ1 150 k = sI ρ 150 k) ∧ (r = 0 ∨ r = 1 ∧ FOU n b lv pt f σ1 ρ1) := by
  have n6 := P.1.2.2.2.1
  obtain ⟨hp, ne⟩ := mpB_t.mp mp
  have L := P.1.1
  have M := Q.1.1.1
  obtain ⟨r, σ1, ρ1, a1, a2, a3, a4, a5, a6, a7⟩ := steps_q P Q hh hm (pf m hm hp) (pp m hm hp) ne
  have L1 := a5.1.1
  have M1 := a6.1.1.1
  have kσ : ∀ x k, x ≤ 153 → ¬ Wbf x k → sI σ1 x k = sI σ x k := fun x k h1 h2 => Fr_i a3 (by have := L.2.2; omega) h2
  have kρ : ∀ x k, x ≤ 153 → ¬ Wbm x k → sI ρ1 x k = sI ρ x k := fun x k h1 h2 => Fr_i a4 (by have := M.2.2; omega) h2
  have next : ∀ fuel (ρ : St), f12_orders_p206 G (f12_orders_p62 G fuel) ρ 101 (nI lv) h (nI m) = f12_orders_p62 G fuel ρ 101 (nI lv) h (nI (m + 1)) := fun fuel ρ => by
    unfold f12_orders_p206
    rw [lt_b, nI_1]
  have headM : ∀ fuel, f12_orders_p62 G (fuel + 1) ρ 101 (nI lv) h (nI m) = if r = -1 then f12_orders_p62 G fuel ρ1 101 (nI lv) h (nI (m + 1)) else
      bd (G (wI (wI (wI ρ1 109 m (pt m)) 149 lv (nI m)) 150 lv r) 101 (nI (lv + 1)) h) fun r75 t76 => lt (sR t76 101 9) fun b79 => gd (nz b79) (gd (ob t76 b79 14) (gd (inb t76 b79 (nI m)) (lt (wI t76 b79 (ix (nI m)) (f m)) fun t84 => if r75 = 0 then f12_orders_p62 G fuel t84 101 (nI lv) h (nI (m + 1)) else
        lt (sR t84 101 74) fun b87 => gd (nz b87) (gd (ob t84 b87 14) (gd (inb t84 b87 (nI lv)) (lt (wI t84 b87 (ix (nI lv)) (nI m)) fun t92 => lt (sR t92 101 75) fun b94 => gd (nz b94) (gd (ob t92 b94 14) (gd (inb t92 b94 (nI lv)) (lt (wI t92 b94 (ix (nI lv)) r) fun t99 => some (1, t99)))))))))) := fun fuel => by
    have Ma : Lay (wI ρ1 109 m (pt m)) := Lay_wI M1
    have Mb : Lay (wI (wI ρ1 109 m (pt m)) 149 lv (nI m)) := Lay_wI Ma
    rw [f12_orders_p62, gd_t (oL101 M), Q.1.1.2.2.2.2.2.1, if_pos (nI_lt hm (by omega)), bd_s (isIn_s M Q.2.1 m), ite_B, if_pos hp, lt_b, rL101_9 M, gd_t nz_s, gd_t (oL109 M), gd_t (inb_n (lL109 M) (by omega) (by decide)), lt_b, rL101_63 M, gd_t nz_s, gd_t (oL144 M), gd_t (inb_n (lL144 M) (by omega) (by decide)), ix_n (by omega), Q.1.2 m hm, Q.2.2 m hm hp, if_neg ne, bd_s a2, next]
    by_cases c : r = -1
    · rw [if_pos c, if_pos c]
    · rw [if_neg c, if_neg c, lt_b, rL101_9 M1, gd_t nz_s, gd_t (oL109 M1), gd_t (inb_n (lL109 M1) (by omega) (by decide)), a6.1.2 m hm, lt_b, lt_b, rL101_63 M1, gd_t nz_s, gd_t (oL144 M1), gd_t (inb_n (lL144 M1) (by omega) (by decide)), a6.2.2 m hm hp, lt_b, lt_b, rL101_74 Ma, gd_t nz_s, gd_t (oL149 Ma), gd_t (inb_n (lL149 Ma) (by omega) (by decide)), ix_n (by omega), lt_b, lt_b, rL101_75 Mb, gd_t nz_s, gd_t (oL150 Mb), gd_t (inb_n (lL150 Mb) (by omega) (by decide)), lt_b, nI_1]
      simp only [next, ix_n (show m < 2147483648 by omega), ix_n (show lv < 2147483648 by omega)]
  have headC : f5_arrangeWith F σ 94 (nI m) (nI lv) = if r = -1 then some (0, σ1) else
      bd (F (wI (wI (wI σ1 95 lv (nI m)) 96 lv r) 97 m (pt m)) 94 (nI (lv + 1))) fun r48 t49 => lt (sR t49 94 4) fun b52 => gd (nz b52) (gd (ob t49 b52 14) (gd (inb t49 b52 (nI m)) (lt (wI t49 b52 (ix (nI m)) (f m)) fun t57 => gd (isB r48) (some (r48, t57))))) := by
    have La : Lay (wI σ1 95 lv (nI m)) := Lay_wI L1
    have Lb : Lay (wI (wI σ1 95 lv (nI m)) 96 lv r) := Lay_wI La
    unfold f5_arrangeWith
    rw [gd_t (oL94 L), lt_b, rL94_1 L, gd_t nz_s, gd_t (oL78 L), lt_b, rL78_2 L, gd_t nz_s, gd_t (oL79 L), gd_t (inb_n (lL79 L) (by omega) (by decide)), ix_n (by omega), P.2.2.2 m hm hp, bd_s a1]
    by_cases c : r = -1
    · rw [if_pos c, if_pos c]
    · rw [if_neg c, if_neg c, lt_b, rL94_2 L1, gd_t nz_s, gd_t (oL95 L1), gd_t (inb_n (lL95 L1) hl (by decide)), ix_n (by omega), lt_b, lt_b, rL94_3 La, gd_t nz_s, gd_t (oL96 La), gd_t (inb_n (lL96 La) hl (by decide)), lt_b, lt_b, rL94_4 Lb, gd_t nz_s, gd_t (oL97 Lb), gd_t (inb_n (lL97 Lb) (by omega) (by decide)), sI_wo (show (97 : Nat) ≠ 96 by decide), sI_wo (show (97 : Nat) ≠ 95 by decide), a5.1.2.2.2.2.2 m hm, lt_b, lt_b, rL94_1 Lb, gd_t nz_s, gd_t (oL78 Lb), lt_b, rL78_2 Lb, gd_t nz_s, gd_t (oL79 Lb), gd_t (inb_n (lL79 Lb) (by omega) (by decide)), sI_wo (show (79 : Nat) ≠ 96 by decide), sI_wo (show (79 : Nat) ≠ 95 by decide), a5.2.2.2 m hm hp, lt_b, nI_1]
  by_cases c : r = -1
  · refine ⟨0, σ1, ρ1, by rw [headC, if_pos c], fun fuel => by rw [headM, if_pos c, if_pos rfl], Fr_mo a3 (fun _ _ => bf_ac), Fr_mo a4 (fun _ _ => bm_ao), a5, a6, fun k hk => ⟨kσ _ _ (by omega) (by unfold Wbf; omega), kσ _ _ (by omega) (by unfold Wbf; omega), kρ _ _ (by omega) (by unfold Wbm; omega), kρ _ _ (by omega) (by unfold Wbm; omega)⟩, Or.inl rfl⟩
  · have l' := LO_mv (b := b) l (a7 c)
    have F1 : Fr Wac σ1 (wI (wI (wI σ1 95 lv (nI m)) 96 lv r) 97 m (pt m)) := by
      refine Fr_wI (Fr_wI (Fr_wI Fr_rf ?_) ?_) ?_ <;> exact Or.inl (by unfold Wac; omega)
    have G1 : Fr Wao ρ1 (wI (wI (wI ρ1 109 m (pt m)) 149 lv (nI m)) 150 lv r) := by
      refine Fr_wI (Fr_wI (Fr_wI Fr_rf ?_) ?_) ?_ <;> exact Or.inl (by unfold Wao; omega)
    have P1 : PA δ n b h pt (ud f m (pt m)) (wI (wI (wI σ1 95 lv (nI m)) 96 lv r) 97 m (pt m)) := PA_ac F1 (fun k hk => by
      unfold ud
      by_cases e : k = m
      · rw [if_pos e, e, sI_w1]
      · rw [if_neg e, sI_wk e, sI_wo (by decide), sI_wo (by decide)]; exact a5.1.2.2.2.2.2 k hk) a5
    have Q1 : PQr δ n b pt (ud f m (pt m)) (wI (wI (wI ρ1 109 m (pt m)) 149 lv (nI m)) 150 lv r) := PQ_ao G1 (fun k hk => by
      rw [sI_wo (by decide), sI_wo (by decide)]
      unfold ud
      by_cases e : k = m
      · rw [if_pos e, e, sI_w1]
      · rw [if_neg e, sI_wk e]; exact a6.1.2 k hk) a6
    obtain ⟨r2, σ2, ρ2, b1, b2, b3, b4, b5, b6, b7, b8⟩ := IH l' _ _ P1 Q1
    have L2 := b5.1.1
    have M2 := b6.1.1.1
    have L3 : Lay (wI σ2 97 m (f m)) := Lay_wI L2
    have M3 : Lay (wI ρ2 109 m (f m)) := Lay_wI M2
    have M4 : Lay (wI (wI ρ2 109 m (f m)) 149 lv (nI m)) := Lay_wI M3
    have F2 : Fr Wac σ2 (wI σ2 97 m (f m)) := Fr_wI Fr_rf (Or.inl (by unfold Wac; omega))
    have G2 : Fr Wao ρ2 (wI ρ2 109 m (f m)) := Fr_wI Fr_rf (Or.inl (by unfold Wao; omega))
    have P2 : PA δ n b h pt f (wI σ2 97 m (f m)) := PA_ac F2 (fun k hk => by
      by_cases e : k = m
      · rw [e, sI_w1]
      · rw [sI_wk e, b5.1.2.2.2.2.2 k hk]; unfold ud; rw [if_neg e]) b5
    have Q2 : PQr δ n b pt f (wI ρ2 109 m (f m)) := PQ_ao G2 (fun k hk => by
      by_cases e : k = m
      · rw [e, sI_w1]
      · rw [sI_wk e, b6.1.2 k hk]; unfold ud; rw [if_neg e]) b6
    have br : isB r2 = true := by rcases b8 with e | ⟨e, -⟩ <;> rw [e] <;> rfl
    have eC : f5_arrangeWith F σ 94 (nI m) (nI lv) = some (r2, wI σ2 97 m (f m)) := by
      rw [headC, if_neg c, bd_s b1, lt_b, rL94_4 L2, gd_t nz_s, gd_t (oL97 L2), gd_t (inb_n (lL97 L2) (by omega) (by decide)), ix_n (by omega), lt_b, gd_t br]
    have FF : Fr Wac σ (wI σ2 97 m (f m)) := Fr_tr (Fr_tr (Fr_mo a3 (fun _ _ => bf_ac)) F1) (Fr_tr b3 F2)
    have GG : Fr Wao ρ (wI ρ2 109 m (f m)) := Fr_tr (Fr_tr (Fr_mo a4 (fun _ _ => bm_ao)) G1) (Fr_tr b4 G2)
    have low : ∀ k, k < lv → sI (wI σ2 97 m (f m)) 95 k = sI σ 95 k ∧ sI (wI σ2 97 m (f m)) 96 k = sI σ 96 k ∧ sI (wI ρ2 109 m (f m)) 149 k = sI ρ 149 k ∧ sI (wI ρ2 109 m (f m)) 150 k = sI ρ 150 k := fun k hk => by
      obtain ⟨x1, x2, x3, x4⟩ := b7 k (by omega)
      refine ⟨?_, ?_, ?_, ?_⟩
      · rw [sI_wo (by decide), x1, sI_wo (by decide), sI_wo (by decide), sI_wk (by omega)]; exact kσ _ _ (by omega) (by unfold Wbf; omega)
      · rw [sI_wo (by decide), x2, sI_wo (by decide), sI_wk (by omega), sI_wo (by decide)]; exact kσ _ _ (by omega) (by unfold Wbf; omega)
      · rw [sI_wo (by decide), x3, sI_wo (by decide), sI_wk (by omega), sI_wo (by decide)]; exact kρ _ _ (by omega) (by unfold Wbm; omega)
      · rw [sI_wo (by decide), x4, sI_wk (by omega), sI_wo (by decide), sI_wo (by decide)]; exact kρ _ _ (by omega) (by unfold Wbm; omega)
    rcases b8 with e | ⟨e, fd, ⟨f1, f2⟩, f3, f4, f5, f6, f7⟩
    · subst e
      refine ⟨0, wI σ2 97 m (f m), wI ρ2 109 m (f m), eC, fun fuel => ?_, FF, GG, P2, Q2, low, Or.inl rfl⟩
      rw [headM, if_neg c, bd_s b2, lt_b, rL101_9 M2, gd_t nz_s, gd_t (oL109 M2), gd_t (inb_n (lL109 M2) (by omega) (by decide)), ix_n (by omega), lt_b, if_pos rfl, if_pos rfl]
    · subst e
      have G3 : Fr Wao (wI ρ2 109 m (f m)) (wI (wI (wI ρ2 109 m (f m)) 149 lv (nI m)) 150 lv r) := by
        refine Fr_wI (Fr_wI Fr_rf ?_) ?_ <;> exact Or.inl (by unfold Wao; omega)
      have at95 : sI (wI σ2 97 m (f m)) 95 lv = nI m := by
        rw [sI_wo (by decide), (b7 lv (by omega)).1, sI_wo (by decide), sI_wo (by decide), sI_w1]
      have at96 : sI (wI σ2 97 m (f m)) 96 lv = r := by
        rw [sI_wo (by decide), (b7 lv (by omega)).2.1, sI_wo (by decide), sI_w1]
      refine ⟨1, wI σ2 97 m (f m), wI (wI (wI ρ2 109 m (f m)) 149 lv (nI m)) 150 lv r, eC, fun fuel => ?_, FF, Fr_tr GG G3, P2, PQ_ao G3 (fun k hk => by rw [sI_wo (by decide), sI_wo (by decide)]; exact Q2.1.2 k hk) Q2, fun k hk => ?_, Or.inr ⟨rfl, fd, ⟨by omega, f2⟩, ?_, ?_, fun k h1 h2 => ?_, fun k hk hmp => ?_, ?_⟩⟩
      · rw [headM, if_neg c, bd_s b2, lt_b, rL101_9 M2, gd_t nz_s, gd_t (oL109 M2), gd_t (inb_n (lL109 M2) (by omega) (by decide)), ix_n (by omega), lt_b, if_neg (by decide), if_neg (by decide), lt_b, rL101_74 M3, gd_t nz_s, gd_t (oL149 M3), gd_t (inb_n (lL149 M3) (by omega) (by decide)), ix_n (by omega), lt_b, lt_b, rL101_75 M4, gd_t nz_s, gd_t (oL150 M4), gd_t (inb_n (lL150 M4) (by omega) (by decide)), lt_b]
      · obtain ⟨x1, x2, x3, x4⟩ := low k hk
        refine ⟨x1, x2, ?_, ?_⟩
        · rw [sI_wo (by decide), sI_wk (by omega)]; exact x3
        · rw [sI_wk (by omega), sI_wo (by decide)]; exact x4
      · rw [sI_wo (by decide)]; exact f3
      · rw [sI_wo (by decide), sI_wo (by decide), sI_wo (by decide)]; exact f4
      · by_cases e : k = lv
        · rw [e, at95, at96, sI_wo (by decide), sI_w1, sI_w1]
          exact ⟨rfl, rfl, m, hm, hp, rfl⟩
        · obtain ⟨x1, x2, x3⟩ := f5 k (by omega) h2
          have y95 : sI (wI σ2 97 m (f m)) 95 k = sI σ2 95 k := by rw [sI_wo (by decide)]
          have y96 : sI (wI σ2 97 m (f m)) 96 k = sI σ2 96 k := by rw [sI_wo (by decide)]
          have y149 : sI (wI (wI (wI ρ2 109 m (f m)) 149 lv (nI m)) 150 lv r) 149 k = sI ρ2 149 k := by rw [sI_wo (by decide), sI_wk e, sI_wo (by decide)]
          have y150 : sI (wI (wI (wI ρ2 109 m (f m)) 149 lv (nI m)) 150 lv r) 150 k = sI ρ2 150 k := by rw [sI_wk e, sI_wo (by decide), sI_wo (by decide)]
          rw [y95, y96, y149, y150]
          exact ⟨x1, x2, x3⟩
      · by_cases e : k = m
        · exact ⟨lv, Nat.le_refl _, by omega, by rw [at95, e]⟩
        · have mp' : mpB b pt (ud f m (pt m)) k = true := by
            rw [mpB_t] at hmp ⊢
            refine ⟨hmp.1, ?_⟩
            unfold ud
            rw [if_neg e]
            exact hmp.2
          obtain ⟨q, q1, q2, q3⟩ := f6 k hk mp'
          exact ⟨q, by omega, q2, by rw [sI_wo (by decide)]; exact q3⟩
      · refine LO_congr (fun k hk => ?_) f7
        unfold gF ud
        by_cases hk2 : bitP (nI b) k = true
        · rw [if_pos hk2, if_pos hk2]
        · rw [if_neg hk2, if_neg hk2, if_neg (fun e => hk2 (by rw [e]; exact hp))]
