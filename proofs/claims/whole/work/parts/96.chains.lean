/-! CHAINS THAT BREAK -/
theorem break_lp {n e : Nat} {h ic : Int32} (n6 : n ≤ 6) : ∀ (j i f1 f2 : Nat) (σ ρ : St), i + j = n → j < f1 → j < f2 → DR n e h ic σ ρ → (∀ m, m < n → 0 ≤ (sI σ (29 + m) 2).toInt) →
    ∃ σ' ρ', f2_breakChains_p18 f1 σ 68 (nI i) = some ((), σ') ∧ f12_chains_p2 f2 ρ 101 (nI i) = some ((), ρ') ∧ DR n e h ic σ' ρ' ∧ Fr (Wdc n) σ σ' ∧ Fr Wdm ρ ρ' := by
  intro j
  induction j with
  | zero =>
    intro i f1 f2 σ ρ hi hf1 hf2 d hch
    obtain ⟨f1, rfl, -⟩ := suc_of hf1
    obtain ⟨f2, rfl, -⟩ := suc_of hf2
    have L := d.1.1
    have Lr := d.1.2.1
    have : i = n := by omega
    subst this
    refine ⟨σ, ρ, ?_, ?_, d, Fr_rf, Fr_rf⟩
    · rw [f2_breakChains_p18, gd_t (oL68 L), lt_b, rL68_0 L, gd_t nz_s, gd_t (oL2 L), d.2.1.1, if_neg (nI_nlt (by omega) (by omega))]
    · rw [f12_chains_p2, gd_t (oL101 Lr), d.1.2.2.2.2.2.2.1, if_neg (nI_nlt (by omega) (by omega))]
  | succ j ih =>
    intro i f1 f2 σ ρ hi hf1 hf2 d hch
    obtain ⟨f1, rfl, hf1'⟩ := suc_of hf1
    obtain ⟨f2, rfl, hf2'⟩ := suc_of hf2
    have L := d.1.1
    have R := d.1.2
    have Lr := d.1.2.1
    have hN := L.2.2
    have hin : i < n := by omega
    have h4 := d.2.2.2.2.1.1
    have h51 := d.2.2.2.2.1.2.1
    have hh := d.2.2.2.2.1.2.2
    have h5 := d.2.2.2.2.2.1
    have h52 := d.2.2.2.2.2.2
    have ea : ∀ q, q < n → sI ρ 109 q = sI σ 6 q := d.2.1.2.1
    have pC := pull_s (h := h) (ice := ic) L R.2.1 d.2.1.1 n6 (oL6 L) (lL6 L) (show i < 6 by omega)
    have chr : sI ρ 108 i = sI σ (29 + i) 2 := (R.2.2.2.2.2.2.2 i hin).2.2.1
    -- on to the next
    have next : ∀ σ2 ρ2, DR n e h ic σ2 ρ2 → Fr (Wdc n) σ σ2 → Fr Wdm ρ ρ2 → ∃ σ' ρ', f2_breakChains_p101 (f2_breakChains_p18 f1) σ2 68 (nI i) = some ((), σ') ∧ f12_chains_p68 (f12_chains_p2 f2) ρ2 101 (nI i) = some ((), ρ') ∧ DR n e h ic σ' ρ' ∧ Fr (Wdc n) σ σ' ∧ Fr Wdm ρ ρ' := by
      intro σ2 ρ2 d2 fc fm
      obtain ⟨σ', ρ', w1, w2, w3, w4, w5⟩ := ih (i + 1) f1 f2 σ2 ρ2 (by omega) (by omega) (by omega) d2 (fun m hm => by rw [Fr_i fc (by omega) (by unfold Wdc; omega)]; exact hch m hm)
      refine ⟨σ', ρ', ?_, ?_, w3, Fr_tr fc w4, Fr_tr fm w5⟩
      · unfold f2_breakChains_p101
        rw [lt_b, nI_1]; exact w1
      · unfold f12_chains_p68
        rw [lt_b, nI_1]; exact w2
    rw [f2_breakChains_p18, gd_t (oL68 L), lt_b, rL68_0 L, gd_t nz_s, gd_t (oL2 L), d.2.1.1, if_pos (nI_lt hin (by omega)), lt_b, rL2_3 L, gd_t nz_s, h4, h5, bd_s pC, lt_b, rL68_0 L, gd_t nz_s, gd_t (oL2 L), lt_b, rL2_2 L, gd_t nz_s, gd_t (oL5 L), gd_t (inb_n (lL5 L) (show i < 6 by omega) (by decide)), lt_b, ix_n (k := i) (by omega), (lay_boat L (show i < 6 by omega)).1, gd_t (nz_t (by omega)), gd_t (oboat L (show i < 6 by omega))]
    rw [f12_chains_p2, gd_t (oL101 Lr), d.1.2.2.2.2.2.2.1, if_pos (nI_lt hin (by omega)), lt_b (sR ρ 101 9), rL101_9 Lr, gd_t (nz_t (show 0 < 109 by decide)), gd_t (oL109 Lr), gd_t (inb_n (lL109 Lr) (by omega) (by decide)), ix_n (k := i) (by omega), ea i hin]
    by_cases c0 : sI σ 6 i < 0
    · have p0 : plP σ n (sI σ 6) i h ic = 0 := by
        unfold plP
        rw [if_neg (fun q => absurd q.1 (Int32.not_le.mpr c0))]
      rw [p0, if_pos (show (0 : Int32) ≤ sI σ (29 + i) 2 by rw [t_le]; exact hch i hin), if_pos c0]
      exact next σ ρ d Fr_rf Fr_rf
    · have c0' : 0 ≤ sI σ 6 i := Int32.not_lt.mp c0
      obtain ⟨b, hb, hat⟩ := LO_at d.2.1.2.2 hin c0'
      have pM := pulM_d (ice := ic) R hin (by rw [ea i hin]; exact c0') (LO_congr ea d.2.1.2.2) hh
      rw [plP_cg hin ea] at pM
      rw [if_neg c0, h51, h52, bd_s pM, lt_b (sR ρ 101 8), rL101_8 Lr, gd_t (nz_t (show 0 < 108 by decide)), gd_t (oL108 Lr), gd_t (inb_n (lL108 Lr) (by omega) (by decide)), chr]
      by_cases c1 : plP σ n (sI σ 6) i h ic ≤ sI σ (29 + i) 2
      · rw [if_pos c1, if_pos c1]
        exact next σ ρ d Fr_rf Fr_rf
      · obtain ⟨σ1, ρ1, t1, t2, t3, t4, t5, t6⟩ := tell_d d 1 (nI i) (-1) (nI b)
        have hc : 0 + 1 ≤ cntF (loF (sI σ1 6) (b % 12)) n := by
          have := cnt_lt (p := fun _ => false) (q := loF (sI σ1 6) (b % 12)) (o := i) n hin (fun k _ q => absurd q (by decide)) (by decide) ((lo_n (by rw [t6]; exact hat) hb).mpr (Nat.le_refl _))
          omega
        obtain ⟨σ2, ρ2, w1, w2, w3, w4, w5, -⟩ := drift_k n6 10 0 rfl σ1 ρ1 i b (plP σ n (sI σ 6) i h ic) t5 hin hb (by rw [t6]; exact hat) hc
        rw [if_neg c1, if_neg c1, lt_b, rL2_3 L, gd_t nz_s, gd_t (oL6 L), gd_t (inb_n (lL6 L) (show i < 6 by omega) (by decide)), hat, bd_s t1, show (0 : Int32) = nI 0 from rfl, bd_s w1, lt_b (sR ρ 101 9), rL101_9 Lr, gd_t (nz_t (show 0 < 109 by decide)), gd_t (oL109 Lr), gd_t (inb_n (lL109 Lr) (by omega) (by decide)), ea i hin, hat, bd_s t2, bd_s w2]
        exact next σ2 ρ2 w3 (Fr_tr (Fr_mo t3 (fun _ _ => tc_dc)) w4) (Fr_tr (Fr_mo t4 (fun _ _ => tm_dm)) w5)
