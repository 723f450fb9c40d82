/-! A DAY: the mills in turn, side by side -/
theorem liesAt_no {σ : St} (L : Lay σ) {n m : Nat} (sz : sI σ 2 5 = nI n) (n6 : n ≤ 6) (hm : m < n) (h : sI σ 6 m < 0) : f8_liesAtBerth σ 2 (nI m) = some (0, σ) := by
  unfold f8_liesAtBerth
  rw [gd_t (oL2 L), bd_s (has_s L), ite_B, if_pos ⟨nI_pos' (by omega), by rw [sz]; exact nI_lt hm (by omega)⟩, lt_b, rL2_3 L, gd_t nz_s, gd_t (oL6 L), gd_t (inb_n (lL6 L) (by omega) (by decide)), ix_n (by omega), if_pos h]
theorem pwP_n {δ : St} (V : VT δ) {n m : Nat} {f : Nat → Int32} {h : Int32} (hs : 0 ≤ (sI δ (29 + m) 3).toInt) : ∃ a, a ≤ 400 ∧ pwP δ n f m h = nI a := by
  apply nat_of (M := 400)
  unfold pwP
  by_cases c1 : 0 ≤ f m ∧ f m < 72
  · rw [if_pos c1]
    by_cases c2 : dpF (sI δ 3 (ix (f m))) h < sI δ (29 + m) 0
    · rw [if_pos c2]; decide
    · rw [if_neg c2]
      have v := valT_n V (l := 6) (by decide) (flP δ n f (ix (f m)) h)
      generalize valT δ 6 (flP δ n f (ix (f m)) h) = x at v
      have q5 : (sI δ (29 + m) 3 / 5).toInt = (sI δ (29 + m) 3).toInt / 5 := by
        rw [t_div (by decide)]
        exact Int.tdiv_eq_ediv_of_nonneg hs
      have w : 0 ≤ (wrF (sI δ (29 + m) 3)).toInt ∧ (wrF (sI δ (29 + m) 3)).toInt ≤ 100 := by
        unfold wrF
        by_cases c3 : 100 ≤ sI δ (29 + m) 3 / 5
        · rw [if_pos c3]; decide
        · rw [if_neg c3]
          rw [t_le] at c3
          rw [q5] at c3 ⊢
          have e100 : (100 : Int32).toInt = 100 := rfl
          rw [e100] at c3
          exact ⟨Int.ediv_nonneg hs (by decide), by omega⟩
      generalize wrF (sI δ (29 + m) 3) = y at w
      have e100 : (100 : Int32).toInt = 100 := rfl
      have s1 : (100 - y).toInt = 100 - y.toInt := by rw [t_sub (by rw [e100]; omega) (by rw [e100]; omega), e100]
      have b0 : 0 ≤ x.toInt * (100 - y.toInt) := Int.mul_nonneg v.1 (by omega)
      have b1 : x.toInt * (100 - y.toInt) ≤ 400 * 100 := Int.mul_le_mul v.2 (by omega) (by omega) (by omega)
      have s2 : (x * (100 - y)).toInt = x.toInt * (100 - y.toInt) := by rw [t_mul (by rw [s1]; omega) (by rw [s1]; omega), s1]
      have s3 : (x * (100 - y) / 100).toInt = x.toInt * (100 - y.toInt) / 100 := by
        rw [t_div (by decide), s2, e100]
        exact Int.tdiv_eq_ediv_of_nonneg b0
      rw [s3]
      exact ⟨Int.ediv_nonneg b0 (by decide), by omega⟩
  · rw [if_neg c1]; decide
theorem RiV_gc {m nm : Nat} {σ ρ σ' ρ' : St} (hm : m < 6) (L : Lay σ) (R : RiV σ ρ nm) (f : Fr (Wgc m) σ σ') (g : Fr (Wgm m) ρ ρ') (e : sI σ' (29 + m) 3 = sI ρ' 110 m ∧ sI σ' (29 + m) 4 = sI ρ' 111 m ∧ sI σ' (29 + m) 5 = sI ρ' 112 m) : RiV σ' ρ' nm := by
  have hN := L.2.2
  have hNr := R.1.2.2
  obtain ⟨Lr, V, RT, B, RB, M⟩ := R
  have n6 := M.2.1
  have kc : ∀ x k, x ≤ 153 → ¬ Wgc m x k → sI σ' x k = sI σ x k := fun x k h1 h2 => Fr_i f (by omega) h2
  have km : ∀ x k, x ≤ 153 → ¬ Wgm m x k → sI ρ' x k = sI ρ x k := fun x k h1 h2 => Fr_i g (by omega) h2
  have et : ∀ t, t < 7 → tn σ' t = tn σ t := fun t ht => by unfold tn; rw [kc _ _ (by omega) (by unfold Wgc; omega)]
  have ex : ∀ t, t < 7 → sI σ' (9 + 3 * t) = sI σ (9 + 3 * t) := fun t ht => funext fun k => kc _ _ (by omega) (by unfold Wgc; omega)
  have ey : ∀ t, t < 7 → sI σ' (10 + 3 * t) = sI σ (10 + 3 * t) := fun t ht => funext fun k => kc _ _ (by omega) (by unfold Wgc; omega)
  refine ⟨Lay_Fr g Lr, fun t ht => ?_, RiT_tr (fun t ht => ?_) (fun a k h1 h2 => km _ _ (by omega) (by unfold Wgm; omega)), fun b hb => ?_, fun b hb => ?_, ?_, n6, fun t ht => ?_⟩
  · rw [et t ht, ex t ht, ey t ht, kc _ _ (by omega) (by unfold Wgc; omega)]; exact V t ht
  · rw [et t ht, ex t ht, ey t ht]; exact RT t ht
  · rw [kc _ _ (by omega) (by unfold Wgc; omega)]; exact B b hb
  · rw [kc _ _ (by omega) (by unfold Wgc; omega), km _ _ (by omega) (by unfold Wgm; omega)]; exact RB b hb
  · rw [km _ _ (by omega) (by unfold Wgm; omega)]; exact M.1
  · obtain ⟨a1, a2, a3, a4, a5, a6, a7⟩ := M.2.2 t ht
    rw [km 106 t (by omega) (by unfold Wgm; omega), km 107 t (by omega) (by unfold Wgm; omega), km 108 t (by omega) (by unfold Wgm; omega), km 113 t (by omega) (by unfold Wgm; omega), kc (29 + t) 0 (by omega) (by unfold Wgc; omega), kc (29 + t) 1 (by omega) (by unfold Wgc; omega), kc (29 + t) 2 (by omega) (by unfold Wgc; omega), kc (29 + t) 6 (by omega) (by unfold Wgc; omega)]
    by_cases c : t = m
    · rw [c] at a1 a2 a3 a7 ⊢
      exact ⟨a1, a2, a3, e.1.symm, e.2.1.symm, e.2.2.symm, a7⟩
    · rw [km 110 t (by omega) (by unfold Wgm; omega), km 111 t (by omega) (by unfold Wgm; omega), km 112 t (by omega) (by unfold Wgm; omega), kc (29 + t) 3 (by omega) (by unfold Wgc; omega), kc (29 + t) 4 (by omega) (by unfold Wgc; omega), kc (29 + t) 5 (by omega) (by unfold Wgc; omega)]
      exact ⟨a1, a2, a3, a4, a5, a6, a7⟩
/-- what both memories share while mills grind in turn -/
def GR (nm p q ro e : Nat) (n : Nat → Nat) (h : Int32) (σ ρ : St) : Prop :=
  (Lay σ ∧ RiV σ ρ nm ∧ RR σ ρ nm p q n) ∧ (sI σ 2 5 = nI nm ∧ (∀ m, m < nm → sI ρ 109 m = sI σ 6 m) ∧ LO nm (sI σ 6)) ∧ (GO σ ρ ro ∧ GW σ ρ) ∧ (sI ρ 101 14 = nI e ∧ e ≤ 998) ∧ (sI ρ 101 51 = h ∧ hgF σ p (nI e) (nI e) = h ∧ Hh h)
def Wgk (x k : Nat) : Prop := x = 58 ∨ x = 59 ∨ x = 72 ∨ x = 75 ∨ x = 76 ∨ x = 77 ∨ 29 ≤ x ∧ x ≤ 34 ∧ (k = 3 ∨ k = 4 ∨ k = 5)
def Wgr (x _k : Nat) : Prop := x = 134 ∨ x = 135 ∨ x = 138 ∨ x = 141 ∨ x = 142 ∨ x = 143 ∨ x = 110 ∨ x = 111 ∨ x = 112
theorem gc_gk {m x k : Nat} (hm : m < 6) (h : Wgc m x k) : Wgk x k := by unfold Wgc at h; unfold Wgk; omega
theorem gm_gr {m x k : Nat} (h : Wgm m x k) : Wgr x k := by unfold Wgm at h; unfold Wgr; omega
theorem lh_gk {x k : Nat} (h : Wlh x k) : Wgk x k := by unfold Wlh at h; unfold Wgk; omega
theorem la_gr {x k : Nat} (h : Wla x k) : Wgr x k := by unfold Wla at h; unfold Wgr; omega
/-- the rules were asked: nothing of it changes -/
theorem GR_ask {nm p q ro e : Nat} {n : Nat → Nat} {h : Int32} {σ ρ σ' ρ' : St} (G : GR nm p q ro e n h σ ρ) (f : Fr Wlh σ σ') (g : Fr Wla ρ ρ') : GR nm p q ro e n h σ' ρ' := by
  obtain ⟨⟨L, RV, R⟩, ⟨sz, li, lo⟩, ⟨O, Wr⟩, ⟨h14, he⟩, h51, hh1, hh2⟩ := G
  have hN := L.2.2
  have Lr := RV.1
  have hNr := Lr.2.2
  have kc : ∀ x k, x ≤ 153 → ¬ Wlh x k → sI σ' x k = sI σ x k := fun x k h1 h2 => Fr_i f (by omega) h2
  have km : ∀ x k, x ≤ 153 → ¬ Wla x k → sI ρ' x k = sI ρ x k := fun x k h1 h2 => Fr_i g (by omega) h2
  have e6 : sI σ' 6 = sI σ 6 := funext fun k => kc _ _ (by omega) (by unfold Wlh; omega)
  refine ⟨⟨Lay_Fr f L, RiV_Fd f L (fun a k q => by unfold Wlh; omega) (RiV_Fr g (fun a k q => by unfold Wla; omega) RV), RR_la g Lr (RR_Fd f L (fun x k q => by unfold fpC at q; unfold Wlh; omega) R)⟩, ⟨by rw [kc _ _ (by omega) (by unfold Wlh; omega)]; exact sz, fun m hm => by rw [e6, km _ _ (by omega) (by unfold Wla; omega)]; exact li m hm, by rw [e6]; exact lo⟩, ⟨⟨O.1, ⟨by rw [kc _ _ (by omega) (by unfold Wlh; omega)]; exact O.2.1.1, by rw [km _ _ (by omega) (by unfold Wla; omega)]; exact O.2.1.2⟩, fun i hi => ?_, fun i h1 h2 => ?_⟩, fun s hs => ?_⟩, ⟨by rw [km _ _ (by omega) (by unfold Wla; omega)]; exact h14, he⟩, by rw [km _ _ (by omega) (by unfold Wla; omega)]; exact h51, by rw [(hgF_Fr f L (fun a k q1 q2 => by unfold Wlh; omega) p q (nI e) (nI e)).1]; exact hh1, hh2⟩
  · have o60 := O.1
    rw [km 139 i (by omega) (by unfold Wla; omega), km 140 i (by omega) (by unfold Wla; omega), km 141 i (by omega) (by unfold Wla; omega), km 142 i (by omega) (by unfold Wla; omega), km 143 i (by omega) (by unfold Wla; omega), kc 73 i (by omega) (by unfold Wlh; omega), kc 74 i (by omega) (by unfold Wlh; omega), kc 75 i (by omega) (by unfold Wlh; omega), kc 76 i (by omega) (by unfold Wlh; omega), kc 77 i (by omega) (by unfold Wlh; omega)]
    exact O.2.2.1 i hi
  · rw [kc 76 i (by omega) (by unfold Wlh; omega)]; exact O.2.2.2 i h1 h2
  · rw [km 138 s (by omega) (by unfold Wla; omega), kc 72 s (by omega) (by unfold Wlh; omega)]; exact Wr s hs
/-- one mill grinds -/
theorem grind_1 {nm p q ro e m b : Nat} {n : Nat → Nat} {h : Int32} {σ ρ : St} (G : GR nm p q ro e n h σ ρ) (hm : m < nm) (hb : b < 72) (hat : sI σ 6 m = nI b) (hw : 0 ≤ (sI σ (29 + m) 3).toInt ∧ (sI σ (29 + m) 3).toInt ≤ 400 * e) :
    ∃ σ' ρ', f3_grindOrders σ 70 (nI m) (nI e) (pwP σ nm (sI σ 6) m h) = some ((), σ') ∧ f12_grinds ρ 101 (nI m) = some ((), ρ') ∧ GR nm p q ro e n h σ' ρ' ∧ Fr (Wgc m) σ σ' ∧ Fr (Wgm m) ρ ρ' ∧ (0 ≤ (sI σ' (29 + m) 3).toInt ∧ (sI σ' (29 + m) 3).toInt ≤ 400 * (e + 1)) := by
  obtain ⟨⟨L, RV, R⟩, ⟨sz, li, lo⟩, ⟨O, Wr⟩, ⟨h14, he⟩, h51, hh1, hh2⟩ := G
  have hN := L.2.2
  have Lr := RV.1
  have hNr := Lr.2.2
  have n6 := R.2.2.1.2.1
  have hro := O.1
  obtain ⟨a, ha, pa⟩ := pwP_n (n := nm) (m := m) (f := sI σ 6) (h := h) RV.2.1 hw.1
  have atr : sI ρ 109 m = nI b := (li m hm).trans hat
  have pM := powM_d (h := h) RV hm (by rw [atr]; exact nI_pos' (by omega)) (LO_congr li lo) hh2
  rw [pwP_cg hm li, pa] at pM
  have mw := RV.2.2.2.2.2.2.2 m hm
  have z0 : ∀ x : Int32, x + nI 0 = x := fun x => Int32.add_zero x
  obtain ⟨σ', ρ', c', x1, x2, x3, x4, x5, x6, x7, x8, x9, x10⟩ := grind_lp (p := p) (q := q) (n := n) (e := e) (ro := ro) hm hb ro 0 FU FU a 0 σ ρ (by omega) (by unfold FU; omega) (by unfold FU; omega) L Lr R O Wr atr h14 (by rw [h51, hh1]) (by omega) (by rw [z0]; exact mw.2.2.2.1.symm) (by rw [z0]; exact mw.2.2.2.2.1.symm) mw.2.2.2.2.2.1.symm
  have kc : ∀ x k, x ≤ 153 → ¬ Wgc m x k → sI σ' x k = sI σ x k := fun x k h1 h2 => Fr_i x7 (by omega) h2
  have km : ∀ x k, x ≤ 153 → ¬ Wgm m x k → sI ρ' x k = sI ρ x k := fun x k h1 h2 => Fr_i x8 (by omega) h2
  have e6 : sI σ' 6 = sI σ 6 := funext fun k => kc _ _ (by omega) (by unfold Wgc; omega)
  refine ⟨σ', ρ', ?_, ?_, ⟨⟨Lay_Fr x7 L, RiV_gc (by omega) L RV x7 x8 x6, x3⟩, ⟨by rw [kc _ _ (by omega) (by unfold Wgc; omega)]; exact sz, fun t ht => by rw [e6, km _ _ (by omega) (by unfold Wgm; omega)]; exact li t ht, by rw [e6]; exact lo⟩, ⟨x4, x5⟩, ⟨by rw [km _ _ (by omega) (by unfold Wgm; omega)]; exact h14, he⟩, by rw [km _ _ (by omega) (by unfold Wgm; omega)]; exact h51, by rw [(hgF_Fr x7 L (fun a k q1 q2 => by unfold Wgc; omega) p q (nI e) (nI e)).1]; exact hh1, hh2⟩, x7, x8, ?_⟩
  · unfold f3_grindOrders
    rw [gd_t (oL70 L), lt_b, rL70_0 L, gd_t nz_s, gd_t (oL2 L), lt_b, rL2_3 L, gd_t nz_s, gd_t (oL6 L), gd_t (inb_n (lL6 L) (show m < 6 by omega) (by decide)), lt_b, ix_n (k := m) (by omega), hat, bd_s (laneN (by omega)), pa]
    exact x1
  · unfold f12_grinds
    rw [gd_t (oL101 Lr), h51, bd_s pM]
    exact x2
  · have hs : sI ρ 110 m = sI σ (29 + m) 3 := mw.2.2.2.1
    have ec : (nI c').toInt = (c' : Int) := nI_toInt (by omega)
    rw [x10, hs, t_add (by rw [ec]; omega) (by rw [ec]; omega), ec]
    omega
theorem mod_inj {e nm i k : Nat} (hi : i < nm) (hk : k < nm) (h : (e + i) % nm = (e + k) % nm) : i = k := by
  have e1 := Nat.div_add_mod (e + i) nm
  have e2 := Nat.div_add_mod (e + k) nm
  rw [h] at e1
  rcases Nat.lt_trichotomy ((e + i) / nm) ((e + k) / nm) with c | c | c
  · have : nm * ((e + i) / nm) + nm ≤ nm * ((e + k) / nm) := by rw [← Nat.mul_succ]; exact Nat.mul_le_mul_left nm c
    omega
  · rw [c] at e1; omega
  · have : nm * ((e + k) / nm) + nm ≤ nm * ((e + i) / nm) := by rw [← Nat.mul_succ]; exact Nat.mul_le_mul_left nm c
    omega
theorem mills_lp {nm p q ro e : Nat} {n : Nat → Nat} {h : Int32} : ∀ (j i f1 f2 : Nat) (σ ρ : St), i + j = nm → j < f1 → j < f2 → GR nm p q ro e n h σ ρ → (∀ m, m < nm → 0 ≤ (sI σ (29 + m) 3).toInt ∧ (sI σ (29 + m) 3).toInt ≤ 400 * (e + 1)) → (∀ k, i ≤ k → k < nm → (sI σ (29 + (e + k) % nm) 3).toInt ≤ 400 * e) →
    ∃ σ' ρ', f3_grindDay_p44 f1 σ 70 (nI e) h (nI nm) (nI i) = some ((), σ') ∧ f12_day_p85 f2 ρ 101 (nI i) = some (nI (e + 1), wI ρ' 101 14 (nI (e + 1))) ∧ GR nm p q ro e n h σ' ρ' ∧ Fr Wgk σ σ' ∧ Fr Wgr ρ ρ' ∧ (∀ m, nm ≤ m → m < 6 → ∀ k, sI σ' (29 + m) k = sI σ (29 + m) k ∧ sI ρ' 110 m = sI ρ 110 m ∧ sI ρ' 111 m = sI ρ 111 m ∧ sI ρ' 112 m = sI ρ 112 m) ∧ ∀ m, m < nm → 0 ≤ (sI σ' (29 + m) 3).toInt ∧ (sI σ' (29 + m) 3).toInt ≤ 400 * (e + 1) := by
  intro j
  induction j with
  | zero =>
    intro i f1 f2 σ ρ hi hf1 hf2 G hw1 hw2
    obtain ⟨f1, rfl, -⟩ := suc_of hf1
    obtain ⟨f2, rfl, -⟩ := suc_of hf2
    have Lr := G.1.2.1.1
    have M := G.1.2.1.2.2.2.2.2
    have n6 := M.2.1
    refine ⟨σ, ρ, ?_, ?_, G, Fr_rf, Fr_rf, fun _ _ _ _ => ⟨rfl, rfl, rfl, rfl⟩, hw1⟩
    · rw [f3_grindDay_p44, if_neg (nI_nlt (by omega) (by omega))]
    · rw [f12_day_p85, gd_t (oL101 Lr), M.1, if_neg (nI_nlt (by omega) (by omega)), lt_b, G.2.2.2.1.1, nI_1, sI_w1]
  | succ j ih =>
    intro i f1 f2 σ ρ hi hf1 hf2 G hw1 hw2
    obtain ⟨f1, rfl, hf1'⟩ := suc_of hf1
    obtain ⟨f2, rfl, hf2'⟩ := suc_of hf2
    have L := G.1.1
    have RV := G.1.2.1
    have Lr := RV.1
    have hN := L.2.2
    have M := RV.2.2.2.2.2
    have n6 := M.2.1
    have he := G.2.2.2.1.2
    have h14 := G.2.2.2.1.1
    have li := G.2.1.2.1
    have hm : (e + i) % nm < nm := Nat.mod_lt _ (by omega)
    have rem : nI e + nI i - (nI e + nI i) / nI nm * nI nm = nI ((e + i) % nm) := by rw [nI_add]; exact pk_rem (by omega) (by omega) (by omega)
    have w0 : (sI σ (29 + (e + i) % nm) 3).toInt ≤ 400 * e := hw2 i (Nat.le_refl _) (by omega)
    have uniq : ∀ k, i + 1 ≤ k → k < nm → (e + k) % nm ≠ (e + i) % nm := fun k h1 h2 h3 => by have := mod_inj h2 (show i < nm by omega) h3; omega
    generalize (e + i) % nm = m at hm rem w0 uniq
    have mw := M.2.2 m hm
    -- on to the next mill
    have next : ∀ σ2 ρ2, GR nm p q ro e n h σ2 ρ2 → Fr (Wgc m) σ σ2 → Fr (Wgm m) ρ ρ2 → (0 ≤ (sI σ2 (29 + m) 3).toInt ∧ (sI σ2 (29 + m) 3).toInt ≤ 400 * (e + 1)) →
        ∃ σ' ρ', f3_grindDay_p92 (f3_grindDay_p44 f1) σ2 70 (nI e) h (nI nm) (nI i) = some ((), σ') ∧ f12_day_p154 (f12_day_p85 f2) ρ2 101 (nI i) = some (nI (e + 1), wI ρ' 101 14 (nI (e + 1))) ∧ GR nm p q ro e n h σ' ρ' ∧ Fr Wgk σ σ' ∧ Fr Wgr ρ ρ' ∧ (∀ m, nm ≤ m → m < 6 → ∀ k, sI σ' (29 + m) k = sI σ (29 + m) k ∧ sI ρ' 110 m = sI ρ 110 m ∧ sI ρ' 111 m = sI ρ 111 m ∧ sI ρ' 112 m = sI ρ 112 m) ∧ ∀ m, m < nm → 0 ≤ (sI σ' (29 + m) 3).toInt ∧ (sI σ' (29 + m) 3).toInt ≤ 400 * (e + 1) := by
      intro σ2 ρ2 G2 fc fm hb2
      have hNr := Lr.2.2
      have oth : ∀ t, t < 6 → t ≠ m → ∀ k, sI σ2 (29 + t) k = sI σ (29 + t) k := fun t h1 h2 k => Fr_i fc (by omega) (by unfold Wgc; omega)
      obtain ⟨σ', ρ', x1, x2, x3, x4, x5, x6, x7⟩ := ih (i + 1) f1 f2 σ2 ρ2 (by omega) (by omega) (by omega) G2 (fun t ht => by
        by_cases c : t = m
        · rw [c]; exact hb2
        · rw [oth t (by omega) c]; exact hw1 t ht) (fun k h1 h2 => by
        have q1 : (e + k) % nm < nm := Nat.mod_lt _ (by omega)
        rw [oth _ (by omega) (uniq k h1 h2)]
        exact hw2 k (by omega) h2)
      refine ⟨σ', ρ', ?_, ?_, x3, Fr_tr (Fr_mo fc (fun _ _ => gc_gk (by omega))) x4, Fr_tr (Fr_mo fm (fun _ _ => gm_gr)) x5, fun t h1 h2 k => ?_, x7⟩
      · unfold f3_grindDay_p92
        rw [lt_b, nI_1]; exact x1
      · unfold f12_day_p154
        rw [lt_b, nI_1]; exact x2
      · obtain ⟨u1, u2, u3, u4⟩ := x6 t h1 h2 k
        rw [u1, u2, u3, u4, oth t h2 (by omega) k, Fr_i fm (a := 110) (by omega) (by unfold Wgm; omega), Fr_i fm (a := 111) (by omega) (by unfold Wgm; omega), Fr_i fm (a := 112) (by omega) (by unfold Wgm; omega)]
        exact ⟨rfl, rfl, rfl, rfl⟩
    have same := next σ ρ G Fr_rf Fr_rf (hw1 m hm)
    rw [f3_grindDay_p44, if_pos (nI_lt (by omega) (by omega)), gd_t (nz_pos (by rw [nI_toInt (by omega)]; omega)), rem, lt_b, gd_t (oL70 L)]
    rw [f12_day_p85, gd_t (oL101 Lr), M.1, if_pos (nI_lt (by omega) (by omega)), gd_t (nz_pos (by rw [nI_toInt (by omega)]; omega)), h14, rem, lt_b (nI m), lt_b (sR ρ 101 9), rL101_9 Lr, gd_t (nz_t (show 0 < 109 by decide)), gd_t (oL109 Lr), gd_t (inb_n (lL109 Lr) (by omega) (by decide)), ix_n (k := m) (by omega), li m hm]
    by_cases c0 : sI σ 6 m < 0
    · have mg : f3_mayGrind σ 70 (nI m) (nI e) = some (0, σ) := by
        unfold f3_mayGrind
        rw [gd_t (oL70 L), lt_b, rL70_0 L, gd_t nz_s, gd_t (oL2 L), bd_s (liesAt_no L G.2.1.1 n6 hm c0), if_pos rfl]
      rw [bd_s mg, if_pos rfl, if_pos c0]
      exact same
    · obtain ⟨b, hb, hat⟩ := LO_at G.2.1.2.2 hm (Int32.not_lt.mp c0)
      have m1 : f3_mayGrind σ 70 (nI m) (nI e) = if sI σ (29 + m) 6 = nI e then some (0, σ) else bd (f4_standing σ 35 (nI m) (nI b) (nI e) (nI e)) fun r34 t35 => if (r34 &&& (3 : Int32)) = (0 : Int32) then some ((1 : Int32), t35) else some ((0 : Int32), t35) := by
        unfold f3_mayGrind
        rw [gd_t (oL70 L), lt_b, rL70_0 L, gd_t nz_s, gd_t (oL2 L), bd_s (liesAt_d L G.2.1.1 n6 hm hat hb), if_neg (by decide), lt_b, rL70_0 L, gd_t nz_s, gd_t (oL2 L), lt_b, rL2_2 L, gd_t nz_s, gd_t (oL5 L), gd_t (inb_n (lL5 L) (by omega) (by decide)), lt_b, ix_n (k := m) (by omega), (lay_boat L (show m < 6 by omega)).1, gd_t (nz_t (by omega)), gd_t (oboat L (show m < 6 by omega)), lt_b, rL70_1 L, gd_t nz_s, lt_b, rL2_3 L, gd_t nz_s, gd_t (oL6 L), gd_t (inb_n (lL6 L) (by omega) (by decide)), hat, gd_t (oL35 L)]
      rw [if_neg c0, lt_b (sR ρ 101 13), rL101_13 Lr, gd_t (nz_t (show 0 < 113 by decide)), gd_t (oL113 Lr), gd_t (inb_n (lL113 Lr) (by omega) (by decide)), mw.2.2.2.2.2.2, m1]
      by_cases c1 : sI σ (29 + m) 6 = nI e
      · rw [if_pos c1, if_pos c1, bd_1, if_pos rfl]
        exact same
      · obtain ⟨σ1, s1, s2⟩ := standing_s L G.1.2.2.1.2.1 G.1.2.2.1.2.2 (show m < 6 by omega) hb (nI e) (nI e)
        obtain ⟨ρ1, r1, r2⟩ := isBarred_s Lr G.1.2.2 hm hb (nI e) (nI e)
        have G1 := GR_ask G s2 r2
        rw [if_neg c1, if_neg c1, bd_s s1, hat, bd_s r1]
        have fc : Fr (Wgc m) σ σ1 := Fr_mo s2 (fun _ _ => lh_gc)
        have fm : Fr (Wgm m) ρ ρ1 := Fr_mo r2 (fun _ _ => la_gm)
        have w1 : sI σ1 (29 + m) 3 = sI σ (29 + m) 3 := Fr_i s2 (by omega) (by unfold Wlh; omega)
        by_cases c2 : stdF σ n p m b (nI e) (nI e) &&& 3 = 0
        · have L1 := G1.1.1
          have at1 : sI σ1 6 m = nI b := by rw [Fr_i s2 (by omega) (by unfold Wlh; omega)]; exact hat
          have pw := power_s (h := h) L1 G1.1.2.1.2.1 G1.2.1.1 n6 (oL6 L1) (lL6 L1) (show m < 6 by omega)
          obtain ⟨σ2, ρ2, y1, y2, y3, y4, y5, y6⟩ := grind_1 G1 hm hb at1 (by rw [w1]; exact ⟨(hw1 m hm).1, w0⟩)
          rw [if_pos c2, if_pos c2, bd_1, if_neg (by decide), if_pos rfl, lt_b, rL70_0 L1, gd_t nz_s, gd_t (oL2 L1), lt_b, rL2_3 L1, gd_t nz_s, bd_s pw, bd_s y1, bd_s y2]
          exact next σ2 ρ2 y3 (Fr_tr fc y4) (Fr_tr fm y5) y6
        · rw [if_neg c2, if_neg c2, bd_1, if_pos rfl, if_neg (by decide)]
          exact next σ1 ρ1 G1 fc fm (by rw [w1]; exact hw1 m hm)
