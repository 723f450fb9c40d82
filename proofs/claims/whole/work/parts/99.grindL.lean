/-! GRINDING: all orders, side by side -/
theorem nat_of {x : Int32} {M : Nat} (h : 0 ≤ x.toInt ∧ x.toInt ≤ M) : ∃ k, k ≤ M ∧ x = nI k := by
  obtain ⟨j, hj, rfl⟩ := nI_of (x := x) (by rw [t_lt]; exact Int.not_lt.mpr h.1)
  rw [nI_toInt hj] at h
  exact ⟨j, by omega, rfl⟩
def GO (σ ρ : St) (ro : Nat) : Prop := ro ≤ 60 ∧ (sI σ 70 9 = nI ro ∧ sI ρ 101 55 = nI ro) ∧ (∀ i, i < ro → (sI ρ 139 i = sI σ 73 i ∧ sI ρ 140 i = sI σ 74 i ∧ sI ρ 141 i = sI σ 75 i ∧ sI ρ 142 i = sI σ 76 i ∧ sI ρ 143 i = sI σ 77 i) ∧ (sI σ 73 i = 0 ∨ sI σ 73 i = 1) ∧ (0 ≤ (sI σ 75 i).toInt ∧ (sI σ 75 i).toInt ≤ 500) ∧ (sI σ 75 i ≠ 0 → sI σ 77 i = -1)) ∧ ∀ i, ro ≤ i → i < 60 → sI σ 76 i = 0
def GW (σ ρ : St) : Prop := ∀ s, s < 2 → sI ρ 138 s = sI σ 72 s ∧ 0 ≤ (sI σ 72 s).toInt ∧ (sI σ 72 s).toInt ≤ (600 : Nat)
theorem RR_Fd {W : Nat → Nat → Prop} {δ ε σ : St} {nm p q : Nat} {n : Nat → Nat} (h : Fr W δ ε) (L : Lay δ) (hw : ∀ x k, x = 3 ∨ (29 ≤ x ∧ x ≤ 34 ∧ k ≤ 1) ∨ (36 ≤ x ∧ x ≤ 43) ∨ fpC x → ¬ W x k) (R : RR δ σ nm p q n) : RR ε σ nm p q n := by
  have hN := L.2.2
  obtain ⟨⟨B, K, X⟩, RB, RN, RK, RX⟩ := R
  have n6 := RN.2.1
  have e3 : ∀ k, sI ε 3 k = sI δ 3 k := fun k => Fr_i h (by omega) (hw _ _ (Or.inl rfl))
  refine ⟨⟨fun b hb => by rw [e3]; exact B b hb, gK_Fr h L (fun a k q1 q2 => hw _ _ (by omega)) K, gXc_Fr h L (fun x k q => hw _ _ (Or.inr (Or.inr (Or.inr q)))) X⟩, fun b hb => by rw [e3]; exact RB b hb, ⟨RN.1, n6, fun m hm => ?_⟩, RiK_Fd h L (fun a k q1 q2 => hw _ _ (by omega)) RK, RiX_Fd h L (fun x k q => hw _ _ (Or.inr (Or.inr (Or.inr q)))) X RX⟩
  rw [Fr_i h (by omega) (hw _ _ (by omega)), Fr_i h (by omega) (hw _ _ (by omega))]
  exact RN.2.2 m hm
theorem gc_d {m x k : Nat} (hm : m < 6) (h : x = 3 ∨ (29 ≤ x ∧ x ≤ 34 ∧ k ≤ 1) ∨ (36 ≤ x ∧ x ≤ 43) ∨ fpC x) : ¬ Wgc m x k := by unfold fpC at h; unfold Wgc; omega
theorem gm_r {m x k : Nat} (h : x = 101 ∧ (k = 5 ∨ k = 15 ∨ k = 19) ∨ x = 102 ∨ 106 ≤ x ∧ x ≤ 107 ∨ 114 ≤ x ∧ x ≤ 130) : ¬ Wgm m x k := by unfold Wgm; omega
theorem grind_lp {m b e ro nm p q : Nat} {n : Nat → Nat} (hm : m < nm) (hb : b < 72) : ∀ (j i f1 f2 a c : Nat) (σ ρ : St), i + j = ro → j < f1 → j < f2 → Lay σ → Lay ρ → RR σ ρ nm p q n → GO σ ρ ro → GW σ ρ → sI ρ 109 m = nI b → sI ρ 101 14 = nI e → sI ρ 101 51 = hgF σ p (nI e) (nI e) → a + c ≤ 400 → sI σ (29 + m) 3 = sI ρ 110 m + nI c → sI σ (29 + m) 4 = sI ρ 111 m + nI c → sI σ (29 + m) 5 = sI ρ 112 m →
    ∃ σ' ρ' c', f3_grindOrders_p24 f1 σ 70 (nI m) (nI e) (nI b) (nI (b / 12)) (nI a) (nI i) = some ((), σ') ∧ f12_grinds_p15 f2 ρ 101 (nI m) (nI a) (nI c) (nI i) = some ((), ρ') ∧ RR σ' ρ' nm p q n ∧ GO σ' ρ' ro ∧ GW σ' ρ' ∧ (sI σ' (29 + m) 3 = sI ρ' 110 m ∧ sI σ' (29 + m) 4 = sI ρ' 111 m ∧ sI σ' (29 + m) 5 = sI ρ' 112 m) ∧ Fr (Wgc m) σ σ' ∧ Fr (Wgm m) ρ ρ' ∧ c' ≤ 400 ∧ sI σ' (29 + m) 3 = sI ρ 110 m + nI c' := by
  intro j
  -- the end, from any order on
  have fin : ∀ (a c : Nat) (σ ρ : St), Lay σ → Lay ρ → RR σ ρ nm p q n → GO σ ρ ro → GW σ ρ → a + c ≤ 400 → sI σ (29 + m) 3 = sI ρ 110 m + nI c → sI σ (29 + m) 4 = sI ρ 111 m + nI c → sI σ (29 + m) 5 = sI ρ 112 m →
      ∃ ρ', f12_grinds_p198 ρ 101 (nI m) (nI c) = some ((), ρ') ∧ RR σ ρ' nm p q n ∧ GO σ ρ' ro ∧ GW σ ρ' ∧ (sI σ (29 + m) 3 = sI ρ' 110 m ∧ sI σ (29 + m) 4 = sI ρ' 111 m ∧ sI σ (29 + m) 5 = sI ρ' 112 m) ∧ Fr (Wgm m) ρ ρ' := by
    intro a c σ ρ L Lr R O Wr hac w3 w4 w5
    have n6 := R.2.2.1.2.1
    have f : Fr (Wgm m) ρ (wI (wI ρ 111 m (sI ρ 111 m + nI c)) 110 m (sI ρ 110 m + nI c)) := by
      refine Fr_wI (Fr_wI Fr_rf ?_) ?_ <;> exact Or.inl (by unfold Wgm; omega)
    refine ⟨_, ?_, RR_Fr f Lr (fun x k h => gm_r h) R, ⟨O.1, ?_, fun i hi => ?_, O.2.2.2⟩, fun s hs => ?_, ⟨?_, ?_, ?_⟩, f⟩
    · unfold f12_grinds_p198
      simp (disch := omega) only [gd_1, lt_b, bd_1, nz_s, ob_wI, inb_wI, sR_wI, sK_wI, oL101 Lr, rL101_11 Lr, rL101_10 Lr, oL111 Lr, inb_n (lL111 Lr), oL110 Lr, inb_n (lL110 Lr), nz_t, ix_n, sI_wo]
    · simp (disch := omega) only [sI_wo]; exact O.2.1
    · simp (disch := omega) only [sI_wo]; exact O.2.2.1 i hi
    · simp (disch := omega) only [sI_wo]; exact Wr s hs
    · rw [sI_w1]; exact w3
    · rw [sI_wo (by omega), sI_w1]; exact w4
    · rw [sI_wo (by omega), sI_wo (by omega)]; exact w5
  induction j with
  | zero =>
    intro i f1 f2 a c σ ρ hi hf1 hf2 L Lr R O Wr hat h14 h51 hac w3 w4 w5
    obtain ⟨f1, rfl, -⟩ := suc_of hf1
    obtain ⟨f2, rfl, -⟩ := suc_of hf2
    have hro := O.1
    obtain ⟨ρ', x1, x2, x3, x4, x5, x6⟩ := fin a c σ ρ L Lr R O Wr hac w3 w4 w5
    refine ⟨σ, ρ', c, ?_, ?_, x2, x3, x4, x5, Fr_rf, x6, by omega, w3⟩
    · rw [f3_grindOrders_p24, gd_t (oL70 L), O.2.1.1, if_neg (nI_nlt (by omega) (by omega))]
    · rw [f12_grinds_p15, gd_t (oL101 Lr), O.2.1.2, if_neg (nI_nlt (by omega) (by omega)), x1]
  | succ j ih =>
    intro i f1 f2 a c σ ρ hi hf1 hf2 L Lr R O Wr hat h14 h51 hac w3 w4 w5
    obtain ⟨f1, rfl, hf1'⟩ := suc_of hf1
    obtain ⟨f2, rfl, hf2'⟩ := suc_of hf2
    have hro := O.1
    have n6 := R.2.2.1.2.1
    have hN := L.2.2
    have hNr := Lr.2.2
    have hir : i < ro := by omega
    by_cases ha : a = 0
    · obtain ⟨ρ', x1, x2, x3, x4, x5, x6⟩ := fin a c σ ρ L Lr R O Wr hac w3 w4 w5
      refine ⟨σ, ρ', c, ?_, ?_, x2, x3, x4, x5, Fr_rf, x6, by omega, w3⟩
      · rw [f3_grindOrders_p24, gd_t (oL70 L), O.2.1.1, if_pos (nI_lt hir (by omega)), if_pos (show nI a ≤ 0 by rw [ha]; decide)]
      · rw [f12_grinds_p15, gd_t (oL101 Lr), O.2.1.2, if_pos (nI_lt hir (by omega)), if_pos (show nI a ≤ 0 by rw [ha]; decide), x1]
    · obtain ⟨⟨o1, o2, o3, o4, o5⟩, o6, o7, o8⟩ := O.2.2.1 i hir
      obtain ⟨s, hs, hse⟩ : ∃ s, s < 2 ∧ sI σ 73 i = nI s := by
        rcases o6 with h | h
        · exact ⟨0, by decide, h⟩
        · exact ⟨1, by decide, h⟩
      obtain ⟨lf, hlf, hle⟩ := nat_of (x := sI σ 75 i) (M := 500) o7
      obtain ⟨wr1, wr2⟩ := Wr s hs
      obtain ⟨r, hr, hre⟩ := nat_of wr2
      have c1 := gC1 (m := m) (e := e) (f := f1) L hro O.2.1.1 hir (by omega) (show a ≤ 400 by omega) hb hs hse hre hr hle hlf
      have c2 := (gM1 (c := c) (f := f2) Lr (show m < 6 by omega) hro O.2.1.2 hir (by omega) (show a ≤ 400 by omega) hb hat hs (o1.trans hse) (wr1.trans hre) hr (o3.trans hle) hlf).1
      rw [c1, c2]
      have cb := csF_b (s := s) (l := b / 12) (by omega)
      have zl := zF_le (lf := lf) (a := a) (r := r) (w := csF s (b / 12))
      generalize hz : zF lf a r (csF s (b / 12)) = z at zl
      by_cases hz0 : z = 0
      · obtain ⟨σ', ρ', c', x1, x2, x3⟩ := ih (i + 1) f1 f2 a c σ ρ (by omega) (by omega) (by omega) L Lr R O Wr hat h14 h51 hac w3 w4 w5
        refine ⟨σ', ρ', c', ?_, ?_, x3⟩
        · unfold f3_grindOrders_p85 f3_grindOrders_p219
          rw [gd_t (oL70 L), lt_b, rL70_6 L, gd_t nz_s, gd_t (oL75 L), gd_t (inb_n (lL75 L) (by omega) (by decide)), ix_n (k := i) (by omega), hle, bd_s min_s, mi_n (by omega) (by omega), bd_s min_s, mi_n (by have := miN_le lf a; omega) (by have := Nat.div_le_self r (csF s (b / 12)); omega), show miN (miN lf a) (r / csF s (b / 12)) = z from hz, if_pos (show nI z ≤ 0 by rw [hz0]; decide), lt_b, nI_1]
          exact x1
        · have e1 : (1 : Int32) + (nI (csF s (b / 12)) - 1) = nI (csF s (b / 12)) := by rw [Int32.add_comm, Int32.sub_add_cancel]
          unfold f12_grinds_p63 f12_grinds_p192
          rw [e1, lt_b, gd_t (oL101 Lr), lt_b, rL101_58 Lr, gd_t nz_s, gd_t (oL141 Lr), gd_t (inb_n (lL141 Lr) (by omega) (by decide)), ix_n (k := i) (by omega), o3, hle, bd_s min_s, mi_n (by omega) (by omega), lt_b, rL101_54 Lr, gd_t nz_s, gd_t (oL138 Lr), gd_t (inb_n (lL138 Lr) hs (by decide)), gd_t (nz_pos (by rw [nI_toInt (by omega)]; omega)), ix_n (k := s) (by omega), wr1, hre, pk_div (by omega) (by omega) (by omega), bd_s min_s, mi_n (by have := miN_le lf a; omega) (by have := Nat.div_le_self r (csF s (b / 12)); omega), show miN (miN lf a) (r / csF s (b / 12)) = z from hz, if_pos (show nI z = 0 by rw [hz0]; rfl), lt_b, nI_1]
          exact x2
      · have lf0 : sI σ 75 i ≠ 0 := by rw [hle]; exact nI_ne0 (by omega) (by omega)
        obtain ⟨τc, tc1, tc2⟩ := tollFor_s L R.1.2.1 R.1.2.2 hs (show m < 6 by omega) hb (nI e) (sI σ 74 i) (nI z)
        obtain ⟨τm, tm1, tm2⟩ := tollOf_s (o := i) Lr R hs hm hb (by omega) hat h14 h51 (o1.trans hse) (nI z)
        rw [o2] at tm1
        generalize tlF σ n p m b s (nI e) (sI σ 74 i) (nI z) = T at tc1 tm1
        obtain ⟨σ2, y1, y2, y72, y75, y76, y77, yb3, yb4, yb5⟩ := gC2 (f := f1) L tc2 (show m < 6 by omega) hro hir hs hz.symm (by omega) (show a ≤ 400 by omega) hb hre hr hle hlf tc1
        obtain ⟨ρ2, v1, v2, v138, v141, v142, v143, v110, v111, v112⟩ := gM2 (c := c) (f := f2) Lr tm2 (show m < 6 by omega) hro hir hs hz.symm (by omega) (show a ≤ 400 by omega) hb h14 (wr1.trans hre) hr (o3.trans hle) hlf (o5.trans (o8 lf0)) tm1
        rw [y1, v1]
        have L2 := Lay_Fr y2 L
        have Lr2 := Lay_Fr v2 Lr
        have R2 : RR σ2 ρ2 nm p q n := RR_Fr v2 Lr (fun x k h => gm_r h) (RR_Fd y2 L (fun x k h => gc_d (by omega) h) R)
        have kc : ∀ x k, x ≤ 153 → ¬ Wgc m x k → sI σ2 x k = sI σ x k := fun x k h1 h2 => Fr_i y2 (by omega) h2
        have km : ∀ x k, x ≤ 153 → ¬ Wgm m x k → sI ρ2 x k = sI ρ x k := fun x k h1 h2 => Fr_i v2 (by omega) h2
        have O2 : GO σ2 ρ2 ro := by
          refine ⟨hro, ⟨by rw [kc 70 9 (by omega) (by unfold Wgc; omega)]; exact O.2.1.1, by rw [km 101 55 (by omega) (by unfold Wgm; omega)]; exact O.2.1.2⟩, fun t ht => ?_, fun t h1 h2 => ?_⟩
          · obtain ⟨⟨u1, u2, u3, u4, u5⟩, u6, u7, u8⟩ := O.2.2.1 t ht
            rw [km 139 t (by omega) (by unfold Wgm; omega), km 140 t (by omega) (by unfold Wgm; omega), kc 73 t (by omega) (by unfold Wgc; omega), kc 74 t (by omega) (by unfold Wgc; omega), v141, v142, v143, y75, y76, y77]
            unfold up
            by_cases ct : t = i
            · rw [if_pos ct, if_pos ct, if_pos ct, if_pos ct, if_pos ct, if_pos ct, ct]
              refine ⟨⟨o1, o2, rfl, by rw [o4], rfl⟩, o6, ⟨by rw [nI_toInt (by omega)]; omega, by rw [nI_toInt (by omega)]; omega⟩, fun h => if_neg (fun w => h (by rw [w]; rfl))⟩
            · rw [if_neg ct, if_neg ct, if_neg ct, if_neg ct, if_neg ct, if_neg ct]
              exact ⟨⟨u1, u2, u3, u4, u5⟩, u6, u7, u8⟩
          · rw [y76]
            unfold up
            rw [if_neg (by omega)]
            exact O.2.2.2 t h1 h2
        have W2 : GW σ2 ρ2 := by
          intro t ht
          rw [v138, y72]
          unfold up
          by_cases ct : t = s
          · rw [if_pos ct, if_pos ct]
            refine ⟨rfl, by rw [nI_toInt (by omega)]; omega, by rw [nI_toInt (by omega)]; omega⟩
          · rw [if_neg ct, if_neg ct]
            exact Wr t ht
        have hh2 := (hgF_Fr y2 L (fun a k q1 q2 => by unfold Wgc; omega) p q (nI e) (nI e)).1
        have add : ∀ x : Int32, x + nI c + nI z = x + nI (c + z) := fun x => by rw [Int32.add_assoc, nI_add]
        obtain ⟨σ', ρ', c', x1, x2, x3, x4, x5, x6, x7, x8, x9, x10⟩ := ih (i + 1) f1 f2 (a - z) (c + z) σ2 ρ2 (by omega) (by omega) (by omega) L2 Lr2 R2 O2 W2 (by rw [km 109 m (by omega) (by unfold Wgm; omega)]; exact hat) (by rw [km 101 14 (by omega) (by unfold Wgm; omega)]; exact h14) (by rw [km 101 51 (by omega) (by unfold Wgm; omega), hh2]; exact h51) (by omega) (by rw [yb3, w3, v110, add]) (by rw [yb4, w4, v111, add]) (by rw [yb5, w5, v112])
        exact ⟨σ', ρ', c', x1, x2, x3, x4, x5, x6, Fr_tr y2 x7, Fr_tr v2 x8, x9, by rw [x10, v110]⟩
