/-! LOSS -/
theorem copy6 {σ : St} {a b : Nat} (la : (sK σ a).2 = 6) (lb : (sK σ b).2 = 6) : cpOk σ a 0 b 0 6 = true ∧ (∀ q, q < 6 → sI (wCp σ a (ix 0) b (ix 0) (ix 6)) b q = sI σ a q) ∧ (∀ c, c ≠ b → ∀ q, sI (wCp σ a (ix 0) b (ix 0) (ix 6)) c q = sI σ c q) := by
  refine ⟨?_, ?_, ?_⟩
  · unfold cpOk
    rw [la, lb]
    decide
  · intro q hq
    show (if b = b then va_cpy (sI σ a) (sI σ b) (ix 0) (ix 0) (ix 6) q else sI σ b q) = sI σ a q
    rw [if_pos rfl]
    show va_cpy (sI σ a) (sI σ b) 0 0 6 q = _
    rw [pk_cpy_in (Nat.zero_le _) (by omega)]
    congr 1
    omega
  · intro c hc q
    exact if_neg hc
theorem Fr_cp {W : Nat → Nat → Prop} {σ τ : St} (h : Fr W σ τ) {a sp b dp n : Nat} (hw : (∀ k, W b k) ∨ sN σ < b) : Fr W σ (wCp τ a sp b dp n) := Fr_wC h hw
def Wls (a k : Nat) : Prop := a = 101 ∧ k = 0 ∨ a = 7
theorem loss_q {σ : St} (L : Lay σ) {n d : Nat} (g : gM σ n d) (gt : gT σ) (gb : gB σ) (m o h : Int32) : ∃ r σ1 τ, f11_loss σ 1 m o h = some (r, σ1) ∧ f12_loss σ1 101 m o h = some (r, τ) ∧ Fr Wls σ τ := by
  have n6 := g.ri.2.1
  have fr0 : ∀ τ, Fr Wls σ τ → Fr Wls σ (wI τ 101 0 0) := fun τ h => Fr_wI h (Or.inl (Or.inl ⟨rfl, rfl⟩))
  have hn0 : sI (wI σ 101 0 0) 101 5 = nI n := by rw [sI_wk (by decide)]; exact g.ri.1
  have L0 : Lay (wI σ 101 0 0) := Lay_wI L
  have eM : ¬ (((((0 ≤ m ∧ m < nI n) ∧ 0 ≤ sI σ 109 (ix m)) ∧ (0 ≤ h ∧ h ≤ 20)) ∧ (((0 ≤ o ∧ o < nI n) ∧ 0 ≤ sI σ 109 (ix o)) ∧ (0 ≤ h ∧ h ≤ 20))) ∧ m ≠ o) → f12_loss σ 101 m o h = some (-1, wI σ 101 0 0) := by
    intro c
    unfold f12_loss
    rw [gd_t (oL101 L), lt_b, bd_s (isAsked_s L0 hn0 n6), ite_B, bd_s (isAsked_s L0 hn0 n6), ite_B, sI_wo (b := 109) (by decide), sI_wo (b := 109) (by decide)]
    by_cases c1 : ((0 ≤ m ∧ m < nI n) ∧ 0 ≤ sI σ 109 (ix m)) ∧ (0 ≤ h ∧ h ≤ 20)
    · rw [if_pos c1]
      by_cases c2 : ((0 ≤ o ∧ o < nI n) ∧ 0 ≤ sI σ 109 (ix o)) ∧ (0 ≤ h ∧ h ≤ 20)
      · rw [if_pos c2, if_pos (Decidable.not_not.mp (fun q => c ⟨⟨c1, c2⟩, q⟩))]
      · rw [if_neg c2]
    · rw [if_neg c1]
  have li : ∀ q : Int32, 0 ≤ q ∧ q < nI n → sI σ 109 (ix q) = sI σ 6 (ix q) := fun q hq => by
    obtain ⟨k, hk, rfl⟩ := inN rfl (by omega) hq
    rw [ix_n (by omega)]; exact g.li k hk
  by_cases c0 : m = o
  · refine ⟨-1, σ, wI σ 101 0 0, ?_, eM (fun q => q.2 c0), fr0 _ Fr_rf⟩
    unfold f11_loss
    rw [if_pos c0]
  · by_cases c1 : (0 ≤ m ∧ m < nI n) ∧ 0 ≤ sI σ 6 (ix m)
    · by_cases c2 : (0 ≤ o ∧ o < nI n) ∧ 0 ≤ sI σ 6 (ix o)
      · by_cases c3 : 0 ≤ h ∧ h ≤ 20
        · obtain ⟨k, hk, rfl⟩ := inN rfl (by omega) c1.1
          obtain ⟨j, hj, rfl⟩ := inN rfl (by omega) c2.1
          have hkj : k ≠ j := fun e => c0 (by rw [e])
          obtain ⟨cp1, cp2, cp3⟩ := copy6 (lL6 L) (lL7 L)
          have k1 := c1.2
          have j1 := c2.2
          rw [ix_n (by omega)] at k1 j1
          generalize hτ : wCp σ 6 (ix 0) 7 (ix 0) (ix 6) = τ1 at cp2 cp3
          have fr1 : Fr Wls σ τ1 := by rw [← hτ]; exact Fr_cp Fr_rf (Or.inl fun _ => Or.inr rfl)
          have L1 : Lay τ1 := Lay_Fr fr1 L
          have fr2 : Fr Wls σ (wI τ1 7 j (-1)) := Fr_wI fr1 (Or.inl (Or.inr rfl))
          have L2 : Lay (wI τ1 7 j (-1)) := Lay_wI L1
          have gt2 := gT_Fr fr2 L (fun a k h q => by unfold fpT at h; unfold Wls at q; omega) gt
          have g2 : gM (wI τ1 7 j (-1)) n d := gM_Fr fr2 L (fun a k h q => by unfold fpM at h; unfold Wls at q; omega) g
          have e7 : ∀ q, q < 6 → sI (wI τ1 7 j (-1)) 7 q = if q = j then -1 else sI σ 6 q := fun q hq => by rw [sI_ws, cp2 q hq]
          have eo : ∀ a, a ≠ 7 → ∀ q, sI (wI τ1 7 j (-1)) a q = sI σ a q := fun a ha q => by rw [sI_wo ha, cp3 a ha]
          have ew : f8_powerWithout σ 2 (nI k) (nI j) h = some (pwP (wI τ1 7 j (-1)) n (sI (wI τ1 7 j (-1)) 7) k h, wI τ1 7 j (-1)) := by
            unfold f8_powerWithout
            rw [gd_t (oL2 L), lt_b, rL2_3 L, gd_t nz_s, lt_b, rL2_4 L, gd_t nz_s, gd_t (oL6 L), gd_t (oL7 L), gd_t cp1, hτ, lt_b, gd_t (inb_n (lL7 L1) (by omega) (by decide)), lt_b, ix_n (by omega), power_s L2 gt2.1.1 g2.sz n6 (oL7 L2) (lL7 L2) (by omega), bd_1]
          refine ⟨pwP (wI τ1 7 j (-1)) n (sI (wI τ1 7 j (-1)) 7) k h - pwP σ n (sI σ 6) k h, wI τ1 7 j (-1), wI (wI τ1 7 j (-1)) 101 0 0, ?_, ?_, fr0 _ fr2⟩
          · unfold f11_loss
            rw [if_neg c0, gd_t (oL1 L), lt_b, rL1_0 L, gd_t nz_s, gd_t (oL2 L), bd_s (liesAt_s L g), ite_B, if_pos (by rw [g.sz]; exact c1), lt_b, rL1_0 L, gd_t nz_s, gd_t (oL2 L), bd_s (liesAt_s L g), ite_B, if_pos (by rw [g.sz]; exact c2), bd_s isHeight_s, ite_B, if_pos c3, lt_b, rL1_0 L, gd_t nz_s, gd_t (oL2 L), lt_b, rL2_3 L, gd_t nz_s, power_s L gt.1 g.sz n6 (oL6 L) (lL6 L) (by omega), bd_1, lt_b, rL1_0 L, gd_t nz_s, gd_t (oL2 L), ew, bd_1]
          · generalize hσ2 : wI τ1 7 j (-1) = σ2 at gt2 g2 e7 eo fr2 L2
            have L3 : Lay (wI σ2 101 0 0) := Lay_wI L2
            have hn3 : sI (wI σ2 101 0 0) 101 5 = nI n := by rw [sI_wk (by decide)]; exact g2.ri.1
            have e109 : ∀ q, q < n → sI (wI σ2 101 0 0) 109 q = sI σ 6 q := fun q hq => by rw [sI_wo (by decide), eo 109 (by decide)]; exact g.li q hq
            have R0 : RiV σ σ2 n := RiV_Fr fr2 (fun a k q1 q2 => by unfold Wls at q2; omega) (RiV_0 L g gt gb)
            have R1 : RiV σ (wI σ2 101 0 0) n := RiV_Fr Fr0 (fun a k q1 q2 => by unfold W0 at q2; omega) R0
            have fr4 : Fr (fun a _ => a = 109) (wI σ2 101 0 0) (wI (wI σ2 101 0 0) 109 j (-1)) := Fr_wI Fr_rf (Or.inl rfl)
            have R2 : RiV σ (wI (wI σ2 101 0 0) 109 j (-1)) n := RiV_Fr fr4 (fun a k q1 q2 => by omega) R1
            have f109 : ∀ q, q < n → sI (wI (wI σ2 101 0 0) 109 j (-1)) 109 q = if q = j then -1 else sI σ 6 q := fun q hq => by rw [sI_ws, e109 q hq]
            have hO : LO n (sI (wI σ2 101 0 0) 109) := LO_congr e109 g.lo
            have hO2 : LO n (sI (wI (wI σ2 101 0 0) 109 j (-1)) 109) := LO_congr (f := fun q => if q = j then -1 else sI σ 6 q) f109 (LO_set g.lo (fun q => rfl) (Or.inr (Or.inl rfl)))
            have bk : wI (wI (wI σ2 101 0 0) 109 j (-1)) 109 j (sI (wI σ2 101 0 0) 109 j) = wI σ2 101 0 0 := wI_back _ _ _ _
            have p1 : pwP σ n (sI (wI σ2 101 0 0) 109) k h = pwP σ n (sI σ 6) k h := pwP_cg hk e109
            have p2 : pwP σ n (sI (wI (wI σ2 101 0 0) 109 j (-1)) 109) k h = pwP σ2 n (sI σ2 7) k h := by
              rw [pwP_cg (δ := σ) hk (fun q hq => (f109 q hq).trans (e7 q (by omega)).symm)]
              unfold pwP flP
              rw [gt2.2 6 _ (by decide)]
              have ewh : whF σ2 = whF σ ∨ True := Or.inr trivial
              by_cases qq : 0 ≤ sI σ2 7 k ∧ sI σ2 7 k < 72
              · obtain ⟨b, hb, eb⟩ := in72 qq
                rw [eb, ix_n (by omega), gt2.2 _ _ (by omega), eo 3 (by decide), eo (29 + k) (by omega), eo (29 + k) (by omega), flF_wh (wh := whF σ2) (wg := whF σ) (fun q hq => eo (29 + q) (by omega) 1)]
              · rw [if_neg qq, if_neg qq]
            unfold f12_loss
            rw [gd_t (oL101 L2), lt_b, bd_s (isAsked_s L3 hn3 n6), ite_B, if_pos (by rw [ix_n (by omega), e109 k hk]; exact ⟨⟨c1.1, k1⟩, c3⟩), bd_s (isAsked_s L3 hn3 n6), ite_B, if_pos (by rw [ix_n (by omega), e109 j hj]; exact ⟨⟨c2.1, j1⟩, c3⟩), if_neg c0, powM_d R1 hk (by rw [e109 k hk]; exact k1) hO (Hh_of c3), bd_1, lt_b, rL101_9 L3, gd_t nz_s, gd_t (oL109 L3), gd_t (inb_n (lL109 L3) (by omega) (by decide)), ix_n (by omega), lt_b, lt_b, powM_d R2 hk (by rw [f109 k hk, if_neg hkj]; exact k1) hO2 (Hh_of c3), bd_1, lt_b, rL101_9 R2.1, gd_t nz_s, gd_t (oL109 R2.1), gd_t (inb_n (lL109 R2.1) (by omega) (by decide)), lt_b, bk, p1, p2]
        · refine ⟨-1, σ, wI σ 101 0 0, ?_, eM (fun q => c3 q.1.1.2), fr0 _ Fr_rf⟩
          unfold f11_loss
          rw [if_neg c0, gd_t (oL1 L), lt_b, rL1_0 L, gd_t nz_s, gd_t (oL2 L), bd_s (liesAt_s L g), ite_B, if_pos (by rw [g.sz]; exact c1), lt_b, rL1_0 L, gd_t nz_s, gd_t (oL2 L), bd_s (liesAt_s L g), ite_B, if_pos (by rw [g.sz]; exact c2), bd_s isHeight_s, ite_B, if_neg c3]
      · refine ⟨-1, σ, wI σ 101 0 0, ?_, eM (fun q => c2 (by rw [← li o q.1.2.1.1]; exact q.1.2.1)), fr0 _ Fr_rf⟩
        unfold f11_loss
        rw [if_neg c0, gd_t (oL1 L), lt_b, rL1_0 L, gd_t nz_s, gd_t (oL2 L), bd_s (liesAt_s L g), ite_B, if_pos (by rw [g.sz]; exact c1), lt_b, rL1_0 L, gd_t nz_s, gd_t (oL2 L), bd_s (liesAt_s L g), ite_B, if_neg (by rw [g.sz]; exact c2)]
    · refine ⟨-1, σ, wI σ 101 0 0, ?_, eM (fun q => c1 (by rw [← li m q.1.1.1.1]; exact q.1.1.1)), fr0 _ Fr_rf⟩
      unfold f11_loss
      rw [if_neg c0, gd_t (oL1 L), lt_b, rL1_0 L, gd_t nz_s, gd_t (oL2 L), bd_s (liesAt_s L g), ite_B, if_neg (by rw [g.sz]; exact c1)]
