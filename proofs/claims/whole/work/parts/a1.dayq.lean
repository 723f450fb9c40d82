/-! A DAY: the whole of it -/
def Wyc (nm x k : Nat) : Prop := x = 1 ∧ k = 8 ∨ x = 6 ∧ k < nm ∨ x = 69 ∨ x = 68 ∧ (k = 2 ∨ k = 3 ∨ k = 4 ∨ k = 5) ∨ Wgk x k
def Wym (x k : Nat) : Prop := x = 101 ∧ (k = 0 ∨ k = 14 ∨ k = 49 ∨ k = 51 ∨ k = 52) ∨ x = 109 ∨ x = 136 ∨ Wgr x k
def SD (nm p q ro e : Nat) (n : Nat → Nat) (σ ρ : St) : Prop :=
  (Lay σ ∧ RiV σ ρ nm ∧ RR σ ρ nm p q n) ∧ (sI σ 2 5 = nI nm ∧ (∀ m, m < nm → sI ρ 109 m = sI σ 6 m) ∧ LO nm (sI σ 6)) ∧ (GO σ ρ ro ∧ DE σ ρ) ∧ (∀ s, s < 2 → sI ρ 137 s = sI σ 71 s ∧ 0 ≤ (sI σ 71 s).toInt ∧ (sI σ 71 s).toInt ≤ 20) ∧ (sI σ 1 8 = nI e ∧ sI ρ 101 14 = nI e) ∧ (∀ m, m < nm → 0 ≤ (sI σ (29 + m) 2).toInt) ∧ ∀ m, m < nm → 0 ≤ (sI σ (29 + m) 3).toInt ∧ (sI σ (29 + m) 3).toInt ≤ 400 * e
theorem dc_yc {nm x k : Nat} (h : Wdc nm x k) : Wyc nm x k := by unfold Wdc at h; unfold Wyc; omega
theorem dm_ym {x k : Nat} (h : Wdm x k) : Wym x k := by unfold Wdm at h; unfold Wym; omega
theorem gk_yc {nm x k : Nat} (h : Wgk x k) : Wyc nm x k := Or.inr (Or.inr (Or.inr (Or.inr h)))
theorem gr_ym {x k : Nat} (h : Wgr x k) : Wym x k := Or.inr (Or.inr (Or.inr h))
theorem sk30 {x : Int32} (h : 0 ≤ x.toInt ∧ x.toInt ≤ 20) : 0 ≤ (30 * x).toInt ∧ (30 * x).toInt ≤ (600 : Nat) := by
  have e30 : (30 : Int32).toInt = 30 := rfl
  rw [t_mul (by rw [e30]; omega) (by rw [e30]; omega), e30]
  omega
theorem day_l {nm p q ro e : Nat} {n : Nat → Nat} {σ ρ : St} (D : SD nm p q ro e n σ ρ) (he : e ≤ 998) :
    ∃ σ' ρ', f11_day σ 1 = some (nI (e + 1), σ') ∧ f12_day ρ 101 = some (nI (e + 1), ρ') ∧ RiV σ' ρ' nm ∧ (sI σ' 2 5 = nI nm ∧ (∀ m, m < nm → sI ρ' 109 m = sI σ' 6 m) ∧ LO nm (sI σ' 6)) ∧ (GO σ' ρ' ro ∧ DE σ' ρ') ∧ (sI σ' 1 8 = nI (e + 1) ∧ sI ρ' 101 14 = nI (e + 1)) ∧ Fr (Wyc nm) σ σ' ∧ Fr Wym ρ ρ' ∧ (∀ m, nm ≤ m → m < 6 → ∀ k, sI σ' (29 + m) k = sI σ (29 + m) k ∧ sI ρ' 110 m = sI ρ 110 m ∧ sI ρ' 111 m = sI ρ 111 m ∧ sI ρ' 112 m = sI ρ 112 m) ∧ ∀ m, m < nm → 0 ≤ (sI σ' (29 + m) 3).toInt ∧ (sI σ' (29 + m) 3).toInt ≤ 400 * (e + 1) := by
  obtain ⟨⟨L, RV, R⟩, ⟨sz, li, lo⟩, ⟨O, ⟨v, v0, v1, v2, v3⟩⟩, sk, ⟨d1, d14⟩, hch, hwr⟩ := D
  have Lr := RV.1
  have hN := L.2.2
  have hNr := Lr.2.2
  have M := RV.2.2.2.2.2
  have n6 := M.2.1
  have ro60 := O.1
  have hh := hgF_hh R.1.2.1 (nI e) (nI e)
  have hT : f11_heightToday σ 1 = some (hgF σ p (nI e) (nI e), σ) := by
    unfold f11_heightToday
    rw [gd_t (oL1 L), lt_b, rL1_1 L, gd_t nz_s, gd_t (oL35 L), lt_b, rL35_1 L, gd_t nz_s, gd_t (oL36 L), d1, bd_s (heightC L R.1.2.1 _ _)]
  have hgM : f12_heightAt (wI ρ 101 0 0) 101 (nI e) (nI e) = some (hgF σ p (nI e) (nI e), wI ρ 101 0 0) := heightM (Lay_wI Lr) R.1.2.1 (RiK_Fr Fr0 Lr (fun a k h q => by unfold W0 at q; omega) R.2.2.2.1) (nI e) (nI e)
  have icC := iceC L R.1.2.1 (nI e) (nI e)
  have icb := icF_b R.1.2.1 (nI e) (nI e)
  have frI : Fr Wym ρ (wI (wI ρ 101 0 0) 101 51 (hgF σ p (nI e) (nI e))) := by
    refine Fr_wI (Fr_wI Fr_rf ?_) ?_ <;> exact Or.inl (by unfold Wym; omega)
  have icM : f12_iceAt (wI (wI ρ 101 0 0) 101 51 (hgF σ p (nI e) (nI e))) 101 (nI e) (nI e) = some (icF σ q (nI e) (nI e), wI (wI ρ 101 0 0) 101 51 (hgF σ p (nI e) (nI e))) := iceM (Lay_wI (Lay_wI Lr)) R.1.2.1 (RiK_Fr frI Lr (fun a k h q => by unfold Wym Wgr at q; omega) R.2.2.2.1) (nI e) (nI e)
  generalize hic : icF σ q (nI e) (nI e) = ic at icC icb icM
  generalize hhg : hgF σ p (nI e) (nI e) = h at hT hgM icM hh frI
  have bic : isB ic = true := by rcases icb with rfl | rfl <;> rfl
  -- the memories when the chains are looked at
  have fa : Fr (Wyc nm) σ (wI (wI (wI σ 68 3 (nI e)) 68 4 h) 68 5 ic) := by
    refine Fr_wI (Fr_wI (Fr_wI Fr_rf ?_) ?_) ?_ <;> exact Or.inl (by unfold Wyc; omega)
  have fb : Fr Wym ρ (wI (wI (wI ρ 101 0 0) 101 51 h) 101 52 ic) := Fr_wI frI (Or.inl (by unfold Wym; omega))
  have L1 : Lay (wI (wI (wI σ 68 3 (nI e)) 68 4 h) 68 5 ic) := Lay_wI (Lay_wI (Lay_wI L))
  have RV1 : RiV (wI (wI (wI σ 68 3 (nI e)) 68 4 h) 68 5 ic) (wI (wI (wI ρ 101 0 0) 101 51 h) 101 52 ic) nm := by
    refine RiV_Fd (W := fun x _ => x = 68) ?_ L (fun a k q => by omega) (RiV_Fr (W := fun x k => x = 101 ∧ (k = 0 ∨ k = 51 ∨ k = 52)) (by refine Fr_wI (Fr_wI (Fr_wI Fr_rf ?_) ?_) ?_ <;> exact Or.inl (by omega)) (fun a k q => by omega) RV)
    refine Fr_wI (Fr_wI (Fr_wI Fr_rf ?_) ?_) ?_ <;> exact Or.inl rfl
  have DR1 : DR nm e h ic (wI (wI (wI σ 68 3 (nI e)) 68 4 h) 68 5 ic) (wI (wI (wI ρ 101 0 0) 101 51 h) 101 52 ic) := by
    refine ⟨⟨L1, RV1⟩, ⟨?_, fun m hm => ?_, ?_⟩, ⟨v, v0, ?_, ?_, fun i hi => ?_⟩, ⟨?_, ?_⟩, ⟨?_, ?_, hh⟩, ?_, ?_⟩
    · simp (disch := omega) only [sI_wo]; exact sz
    · simp (disch := omega) only [sI_wo]; exact li m hm
    · exact LO_congr (fun m _ => by simp (disch := omega) only [sI_wo]) lo
    · simp (disch := omega) only [sI_wk]; exact v1
    · simp (disch := omega) only [sI_wk]; exact v2
    · simp (disch := omega) only [sI_wo]; exact v3 i hi
    · simp (disch := omega) only [sI_wk, sI_w1]
    · simp (disch := omega) only [sI_wk]; exact d14
    · simp (disch := omega) only [sI_wk, sI_w1]
    · simp (disch := omega) only [sI_wk, sI_w1]
    · simp (disch := omega) only [sI_w1]
    · simp (disch := omega) only [sI_w1]
  obtain ⟨σ2, ρ2, b1, b2, D2, b4, b5⟩ := break_lp n6 nm 0 FU FU _ _ (by omega) (by unfold FU; omega) (by unfold FU; omega) DR1 (fun m hm => by simp (disch := omega) only [sI_wo]; exact hch m hm)
  have f2 : Fr (Wyc nm) σ σ2 := Fr_tr fa (Fr_mo b4 (fun _ _ => dc_yc))
  have g2 : Fr Wym ρ ρ2 := Fr_tr fb (Fr_mo b5 (fun _ _ => dm_ym))
  have L2 := D2.1.1
  have Lr2 := D2.1.2.1
  -- what is left alone so far
  have fx : Fr (fun x k => x = 6 ∨ x = 68 ∨ x = 69) σ σ2 := by
    refine Fr_tr ?_ (Fr_mo b4 (fun x k q => by unfold Wdc at q; omega))
    refine Fr_wI (Fr_wI (Fr_wI Fr_rf ?_) ?_) ?_ <;> exact Or.inl (Or.inr (Or.inl rfl))
  have gx : Fr (fun x k => (x = 101 ∧ (k = 0 ∨ k = 49 ∨ k = 51 ∨ k = 52)) ∨ x = 109 ∨ x = 136) ρ ρ2 := by
    refine Fr_tr ?_ (Fr_mo b5 (fun x k q => by unfold Wdm at q; omega))
    refine Fr_wI (Fr_wI (Fr_wI Fr_rf ?_) ?_) ?_ <;> exact Or.inl (by omega)
  have kc : ∀ x k, x ≤ 153 → x ≠ 6 → x ≠ 68 → x ≠ 69 → sI σ2 x k = sI σ x k := fun x k h1 h2 h3 h4 => Fr_i fx (by omega) (by omega)
  have km : ∀ x k, x ≤ 153 → ¬ ((x = 101 ∧ (k = 0 ∨ k = 49 ∨ k = 51 ∨ k = 52)) ∨ x = 109 ∨ x = 136) → sI ρ2 x k = sI ρ x k := fun x k h1 h2 => Fr_i gx (by omega) h2
  have R2 : RR σ2 ρ2 nm p q n := RR_Fr gx Lr (fun x k q => by omega) (RR_Fd fx L (fun x k q => by unfold fpC at q; omega) R)
  -- rows of both shores
  have sk0 := sk 0 (by decide)
  have sk1 := sk 1 (by decide)
  have f3 : Fr Wgk σ2 (wI (wI σ2 72 0 (30 * sI σ 71 0)) 72 1 (30 * sI σ 71 1)) := by
    refine Fr_wI (Fr_wI Fr_rf ?_) ?_ <;> exact Or.inl (by unfold Wgk; omega)
  have g3 : Fr Wgr ρ2 (wI (wI ρ2 138 0 (30 * sI σ 71 0)) 138 1 (30 * sI σ 71 1)) := by
    refine Fr_wI (Fr_wI Fr_rf ?_) ?_ <;> exact Or.inl (by unfold Wgr; omega)
  have L3 : Lay (wI (wI σ2 72 0 (30 * sI σ 71 0)) 72 1 (30 * sI σ 71 1)) := Lay_wI (Lay_wI L2)
  have Lr3 : Lay (wI (wI ρ2 138 0 (30 * sI σ 71 0)) 138 1 (30 * sI σ 71 1)) := Lay_wI (Lay_wI Lr2)
  have GR3 : GR nm p q ro e n h (wI (wI σ2 72 0 (30 * sI σ 71 0)) 72 1 (30 * sI σ 71 1)) (wI (wI ρ2 138 0 (30 * sI σ 71 0)) 138 1 (30 * sI σ 71 1)) := by
    have f3' : Fr (fun x _ => x = 72) σ2 (wI (wI σ2 72 0 (30 * sI σ 71 0)) 72 1 (30 * sI σ 71 1)) := by
      refine Fr_wI (Fr_wI Fr_rf ?_) ?_ <;> exact Or.inl rfl
    have g3' : Fr (fun x _ => x = 138) ρ2 (wI (wI ρ2 138 0 (30 * sI σ 71 0)) 138 1 (30 * sI σ 71 1)) := by
      refine Fr_wI (Fr_wI Fr_rf ?_) ?_ <;> exact Or.inl rfl
    refine ⟨⟨L3, RiV_Fd f3' L2 (fun a k q => by omega) (RiV_Fr g3' (fun a k q => by omega) D2.1.2), RR_Fr g3' Lr2 (fun x k q => by omega) (RR_Fd f3' L2 (fun x k q => by unfold fpC at q; omega) R2)⟩, ⟨?_, fun m hm => ?_, ?_⟩, ⟨⟨ro60, ⟨?_, ?_⟩, fun i hi => ?_, fun i h1 h2 => ?_⟩, fun s hs => ?_⟩, ⟨?_, he⟩, ?_, ?_, hh⟩
    · simp (disch := omega) only [sI_wo]; exact D2.2.1.1
    · simp (disch := omega) only [sI_wo]; exact D2.2.1.2.1 m hm
    · exact LO_congr (fun m _ => by simp (disch := omega) only [sI_wo]) D2.2.1.2.2
    · simp (disch := omega) only [sI_wo, kc]; exact O.2.1.1
    · rw [sI_wo (by omega), sI_wo (by omega), km 101 55 (by omega) (by omega)]; exact O.2.1.2
    · simp (disch := omega) only [sI_wo, kc, km]; exact O.2.2.1 i hi
    · simp (disch := omega) only [sI_wo, kc]; exact O.2.2.2 i h1 h2
    · have : s = 0 ∨ s = 1 := by omega
      rcases this with rfl | rfl
      · simp (disch := omega) only [sI_wk, sI_w1]; exact ⟨trivial, sk30 sk0.2⟩
      · simp (disch := omega) only [sI_w1]; exact ⟨trivial, sk30 sk1.2⟩
    · rw [sI_wo (by omega), sI_wo (by omega)]; exact D2.2.2.2.1.2
    · rw [sI_wo (by omega), sI_wo (by omega)]; exact D2.2.2.2.2.1.2.1
    · rw [(hgF_Fr f3' L2 (fun a k q1 q2 => by omega) p q (nI e) (nI e)).1, (hgF_Fr fx L (fun a k q1 q2 => by omega) p q (nI e) (nI e)).1]; exact hhg
  have wr3 : ∀ m, m < nm → 0 ≤ (sI (wI (wI σ2 72 0 (30 * sI σ 71 0)) 72 1 (30 * sI σ 71 1)) (29 + m) 3).toInt ∧ (sI (wI (wI σ2 72 0 (30 * sI σ 71 0)) 72 1 (30 * sI σ 71 1)) (29 + m) 3).toInt ≤ 400 * e := fun m hm => by
    simp (disch := omega) only [sI_wo, kc]; exact hwr m hm
  obtain ⟨σ3, ρ3, c1, c2, G3, c4, c5, c6, c7⟩ := mills_lp nm 0 FU FU _ _ (by omega) (by unfold FU; omega) (by unfold FU; omega) GR3 (fun m hm => ⟨(wr3 m hm).1, Int.le_trans (wr3 m hm).2 (by omega)⟩) (fun k _ hk => (wr3 _ (Nat.mod_lt _ (by omega))).2)
  have L3' := G3.1.1
  have Lr3' := G3.1.2.1.1
  have f4 : Fr Wgk σ2 σ3 := Fr_tr f3 c4
  have g4 : Fr Wgr ρ2 ρ3 := Fr_tr g3 c5
  have hN2 := L2.2.2
  have hNr2 := Lr2.2.2
  have kc3 : ∀ x k, x ≤ 153 → ¬ Wgk x k → sI σ3 x k = sI σ2 x k := fun x k h1 h2 => Fr_i f4 (by omega) h2
  have km3 : ∀ x k, x ≤ 153 → ¬ Wgr x k → sI ρ3 x k = sI ρ2 x k := fun x k h1 h2 => Fr_i g4 (by omega) h2
  have k18 : sI σ3 1 8 = nI e := by rw [kc3 1 8 (by omega) (by unfold Wgk; omega), kc 1 8 (by omega) (by omega) (by omega) (by omega)]; exact d1
  have k18b : sI σ2 1 8 = nI e := by rw [kc 1 8 (by omega) (by omega) (by omega) (by omega)]; exact d1
  -- the calls
  have gD : f3_grindDay σ2 70 (nI e) h = some ((), σ3) := by
    unfold f3_grindDay
    show f3_grindDay_p2 (2997 + 1 + 1 + 1) σ2 70 (nI e) h 0 = _
    have e71 : ∀ k, sI σ2 71 k = sI σ 71 k := fun k => kc 71 k (by omega) (by omega) (by omega) (by omega)
    rw [f3_grindDay_p2, if_pos (by decide), gd_t (oL70 L2), lt_b, rL70_3 L2, gd_t nz_s, lt_b, rL70_2 L2, gd_t nz_s, gd_t (oL71 L2), gd_t (inb_k0 (lL71 L2) (by decide) (by decide)), gd_t (oL72 L2), gd_t (inb_k0 (lL72 L2) (by decide) (by decide)), show ix (0 : Int32) = 0 from rfl, e71, lt_b, lt_b]
    have L4 : Lay (wI σ2 72 0 (30 * sI σ 71 0)) := Lay_wI L2
    rw [f3_grindDay_p2, if_pos (by decide), gd_t (oL70 L4), lt_b, rL70_3 L4, gd_t nz_s, lt_b, rL70_2 L4, gd_t nz_s, gd_t (oL71 L4), show (0 : Int32) + 1 = 1 from rfl, gd_t (inb_k1 (lL71 L4) (by decide) (by decide)), gd_t (oL72 L4), gd_t (inb_k1 (lL72 L4) (by decide) (by decide)), show ix (1 : Int32) = 1 from rfl, sI_wo (by decide), e71, lt_b, lt_b]
    rw [f3_grindDay_p2, if_neg (by decide), gd_t (oL70 L3), lt_b, rL70_0 L3, gd_t nz_s, gd_t (oL2 L3), lt_b, GR3.2.1.1]
    by_cases hz : nm = 0
    · rw [if_pos (show nI nm ≤ 0 by rw [hz]; decide)]
      have c1' := c1
      unfold FU at c1'
      rw [f3_grindDay_p44, if_neg (by rw [hz]; decide)] at c1'
      exact c1'
    · rw [if_neg (nI_nle (by omega) (by omega))]
      exact c1
  have bC : ∀ x, x = ic → f11_day_p54 σ 1 h x h (nI e) 68 = some (nI (e + 1), wI σ3 1 8 (nI (e + 1))) := by
    intro x hx
    rw [hx]
    unfold f11_day_p54 f2_breakChains
    rw [gd_t (oL68 L), gd_t (oL68 L), lt_b, lt_b, gd_t bic, lt_b, show (0 : Int32) = nI 0 from rfl, bd_s b1, gd_t (oL1 L2), lt_b, rL1_3 L2, gd_t nz_s, gd_t (oL70 L2), k18b, bd_s gD, k18, nI_1, lt_b, sI_w1]
  refine ⟨wI σ3 1 8 (nI (e + 1)), wI ρ3 101 14 (nI (e + 1)), ?_, ?_, ?_, ⟨?_, fun m hm => ?_, ?_⟩, ⟨⟨ro60, ⟨?_, ?_⟩, fun i hi => ?_, fun i h1 h2 => ?_⟩, ?_⟩, ⟨?_, ?_⟩, ?_, ?_, fun m h1 h2 k => ?_, fun m hm => ?_⟩
  · unfold f11_day
    rw [gd_t (oL1 L), d1, if_pos (show nI e < 999 from nI_lt (b := 999) (by omega) (by decide)), bd_s hT, lt_b, rL1_2 L, gd_t nz_s, lt_b, rL1_1 L, gd_t nz_s, gd_t (oL35 L), lt_b, rL35_2 L, gd_t nz_s, gd_t (oL40 L), d1, bd_s icC]
    rcases icb with q | q
    · rw [if_neg (by rw [q]; decide)]; exact bC 0 q.symm
    · rw [if_pos q]; exact bC 1 q.symm
  · unfold f12_day f12_chains
    have e14 : sI (wI ρ 101 0 0) 101 14 = nI e := by rw [sI_wk (by decide)]; exact d14
    have e14b : sI (wI (wI ρ 101 0 0) 101 51 h) 101 14 = nI e := by rw [sI_wk (by decide)]; exact e14
    have b2' : f12_chains_p2 FU (wI (wI (wI ρ 101 0 0) 101 51 h) 101 52 ic) 101 0 = some ((), ρ2) := b2
    have e137 : ∀ s, s < 2 → sI ρ2 137 s = sI σ 71 s := fun s hs => by rw [km 137 s (by omega) (by omega)]; exact (sk s hs).1
    rw [gd_t (oL101 Lr), lt_b, e14, if_neg (fun w => by have := (nI_eq (a := e) (b := 999) (by omega) (by omega)).mp w; omega), bd_s hgM, lt_b, e14b, bd_s icM, gd_t bic, lt_b, bd_s b2', lt_b, rL101_54 Lr2, gd_t nz_s, lt_b, rL101_53 Lr2, gd_t nz_s, gd_t (oL137 Lr2), gd_t (inb_k0 (lL137 Lr2) (by decide) (by decide)), gd_t (oL138 Lr2), gd_t (inb_k0 (lL138 Lr2) (by decide) (by decide)), show ix (0 : Int32) = 0 from rfl, e137 0 (by decide), lt_b, gd_t (show inb (wI ρ2 138 0 (30 * sI σ 71 0)) 137 1 = true from inb_k1 (lL137 Lr2) (by decide) (by decide)), gd_t (show inb (wI ρ2 138 0 (30 * sI σ 71 0)) 138 1 = true from inb_k1 (lL138 Lr2) (by decide) (by decide)), show ix (1 : Int32) = 1 from rfl, sI_wo (by decide), e137 1 (by decide), lt_b]
    exact c2
  · refine RiV_Fd (W := fun x k => x = 1 ∧ k = 8) (Fr_wI Fr_rf (Or.inl ⟨rfl, rfl⟩)) L3' (fun a k q => by omega) (RiV_Fr (W := fun x k => x = 101 ∧ k = 14) (Fr_wI Fr_rf (Or.inl ⟨rfl, rfl⟩)) (fun a k q => by omega) G3.1.2.1)
  · rw [sI_wo (by omega)]; exact G3.2.1.1
  · rw [sI_wo (by omega), sI_wo (by omega)]; exact G3.2.1.2.1 m hm
  · exact LO_congr (fun m _ => by rw [sI_wo (by omega)]) G3.2.1.2.2
  · rw [sI_wo (by omega)]; exact G3.2.2.1.1.2.1.1
  · rw [sI_wk (by omega)]; exact G3.2.2.1.1.2.1.2
  · simp (disch := omega) only [sI_wo]; exact G3.2.2.1.1.2.2.1 i hi
  · simp (disch := omega) only [sI_wo]; exact G3.2.2.1.1.2.2.2 i h1 h2
  · obtain ⟨w, w0, w1, w2, w3⟩ := D2.2.2.1
    refine ⟨w, w0, ?_, ?_, fun i hi => ?_⟩
    · rw [sI_wo (by omega), kc3 68 2 (by omega) (by unfold Wgk; omega)]; exact w1
    · rw [sI_wk (by omega), km3 101 49 (by omega) (by unfold Wgr; omega)]; exact w2
    · rw [sI_wo (by omega), sI_wo (by omega), kc3 69 i (by omega) (by unfold Wgk; omega), km3 136 i (by omega) (by unfold Wgr; omega)]; exact w3 i hi
  · rw [sI_w1]
  · rw [sI_w1]
  · exact Fr_wI (Fr_tr f2 (Fr_mo f4 (fun _ _ => gk_yc))) (Or.inl (Or.inl ⟨rfl, rfl⟩))
  · exact Fr_wI (Fr_tr g2 (Fr_mo g4 (fun _ _ => gr_ym))) (Or.inl (Or.inl ⟨rfl, Or.inr (Or.inl rfl)⟩))
  · obtain ⟨u1, u2, u3, u4⟩ := c6 m h1 h2 k
    rw [sI_wo (by omega), sI_wo (by omega), sI_wo (by omega), sI_wo (by omega), u1, u2, u3, u4]
    simp (disch := omega) only [sI_wo, kc, km]
    exact ⟨trivial, trivial, trivial, trivial⟩
  · rw [sI_wo (by omega)]; exact c7 m hm
