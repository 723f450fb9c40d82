/-! RULES: the reference keeps a text, or tells the fault -/
def Wkm (T x k : Nat) : Prop := x = 101 ∧ (k = 35 ∨ k = 42) ∨ Wct T x k ∨ (x = 128 ∨ x = 129) ∧ k = T ∨ x = 130
theorem keepM_s {ρ : St} {n : Nat → Nat} {s c r : Nat} {fr : Int32} (M : Lay ρ) (hs : s < 2) (hn : n s < 12) (hc : c ≤ 400) (hr : r ≤ 20) (h40 : sI ρ 101 40 = 0) (h121 : sI ρ 121 24 = nI c) (h122 : sI ρ 122 24 = nI r) (h130 : sI ρ 130 s = nI (n s)) :
    ∃ ρ', f12_rules_p95 ρ 101 (nI s) fr = some (nI r, ρ') ∧ Fr (Wkm (12 * s + n s)) ρ ρ' ∧ sI ρ' 101 35 = 0 ∧ sI ρ' 101 42 = -1 ∧ sI ρ' 130 s = nI (n s + 1) ∧ (∀ q, q ≠ s → sI ρ' 130 q = sI ρ 130 q) ∧ sI ρ' 128 (12 * s + n s) = fr ∧ sI ρ' 129 (12 * s + n s) = sI ρ 101 14 ∧
      sI ρ' 122 (12 * s + n s) = nI r ∧ (∀ k, k < c → sI ρ' 120 (420 * (12 * s + n s) + k) = sI ρ 120 (10080 + k)) ∧ ∀ x, 123 ≤ x → x ≤ 127 → ∀ k, k < r → sI ρ' x (20 * (12 * s + n s) + k) = sI ρ x (480 + k) := by
  have hM := M.2.2
  have M1 : Lay (wI ρ 101 35 0) := Lay_wI M
  have M2 : Lay (wI (wI ρ 101 35 0) 101 42 (-1)) := Lay_wI M1
  have e12 : (12 : Int32) * nI s + nI (n s) = nI (12 * s + n s) := by
    have : (12 : Int32) * nI s = nI (12 * s) := pk_mul 12 s
    rw [this, nI_add]
  obtain ⟨ρt, a1, a2, a3, a4, a5⟩ := copyText_s (T := 12 * s + n s) M2 (by omega) hc hr (by rw [sI_wo (by decide), sI_wo (by decide)]; exact h121) (by rw [sI_wo (by decide), sI_wo (by decide)]; exact h122)
  have Mt := Lay_Fr a2 M2
  have kt : ∀ x k, x ≤ 153 → ¬ Wct (12 * s + n s) x k → sI ρt x k = sI (wI (wI ρ 101 35 0) 101 42 (-1)) x k := fun x k h1 h2 => Fr_i a2 (by have := M2.2.2; omega) h2
  have t14 : sI ρt 101 14 = sI ρ 101 14 := by rw [kt _ _ (by omega) (by unfold Wct; omega), sI_wk (by decide), sI_wk (by decide)]
  have t130 : ∀ q, sI ρt 130 q = sI ρ 130 q := fun q => by rw [kt _ _ (by omega) (by unfold Wct; omega), sI_wo (by decide), sI_wo (by decide)]
  have Ma : Lay (wI ρt 128 (12 * s + n s) fr) := Lay_wI Mt
  have Mb : Lay (wI (wI ρt 128 (12 * s + n s) fr) 129 (12 * s + n s) (sI ρ 101 14)) := Lay_wI Ma
  have Mc : Lay (wI (wI (wI ρt 128 (12 * s + n s) fr) 129 (12 * s + n s) (sI ρ 101 14)) 130 s (nI (n s + 1))) := Lay_wI Mb
  refine ⟨wI (wI (wI ρt 128 (12 * s + n s) fr) 129 (12 * s + n s) (sI ρ 101 14)) 130 s (nI (n s + 1)), ?_, ?_, ?_, ?_, ?_, fun q hq => ?_, ?_, ?_, ?_, fun k hk => ?_, fun x h1 h2 k hk => ?_⟩
  · unfold f12_rules_p95 f12_rules_p116
    rw [gd_t (oL101 M), lt_b, bd_s (isWell_w M1 (by rw [sI_wk (by decide)]; exact h40)), if_neg (by decide), gd_t (oL101 M1), lt_b, gd_t (oL101 M2), bd_s (isWell_w M2 (by rw [sI_wk (by decide), sI_wk (by decide)]; exact h40)), if_neg (by decide), lt_b, rL101_33 M2, gd_t nz_s, gd_t (oL130 M2), gd_t (inb_n (lL130 M2) hs (by decide)), ix_n (k := s) (by omega), sI_wo (b := 130) (by decide), sI_wo (b := 130) (by decide), h130, e12, lt_b, bd_s a1, lt_b, rL101_31 Mt, gd_t nz_s, gd_t (oL128 Mt), gd_t (inb_n (lL128 Mt) (by omega) (by decide)), lt_b, ix_n (k := 12 * s + n s) (by omega), lt_b, rL101_32 Ma, gd_t nz_s, gd_t (oL129 Ma), gd_t (inb_n (lL129 Ma) (by omega) (by decide)), lt_b, sI_wo (b := 101) (by decide), t14, lt_b, rL101_33 Mb, gd_t nz_s, gd_t (oL130 Mb), gd_t (inb_n (lL130 Mb) hs (by decide)), lt_b, sI_wo (b := 130) (by decide), sI_wo (b := 130) (by decide), t130, h130, nI_1, lt_b, rL101_25 Mc, gd_t nz_s, gd_t (oL122 Mc), gd_t (inb_n (lL122 Mc) (by omega) (by decide)), sI_wo (b := 122) (by decide), sI_wo (b := 122) (by decide), sI_wo (b := 122) (by decide), a3]
  · have f0 : Fr (Wkm (12 * s + n s)) ρ (wI (wI ρ 101 35 0) 101 42 (-1)) := by
      refine Fr_wI (Fr_wI Fr_rf ?_) ?_ <;> exact Or.inl (by unfold Wkm; omega)
    refine Fr_wI (Fr_wI (Fr_wI (Fr_tr f0 (Fr_mo a2 (fun _ _ h => Or.inr (Or.inl h)))) ?_) ?_) ?_ <;> exact Or.inl (by unfold Wkm; omega)
  · rw [sI_wo (by decide), sI_wo (by decide), sI_wo (by decide), kt _ _ (by omega) (by unfold Wct; omega), sI_wk (by decide), sI_w1]
  · rw [sI_wo (by decide), sI_wo (by decide), sI_wo (by decide), kt _ _ (by omega) (by unfold Wct; omega), sI_w1]
  · rw [sI_w1]
  · rw [sI_wk hq, sI_wo (by decide), sI_wo (by decide), t130]
  · rw [sI_wo (by decide), sI_wo (by decide), sI_w1]
  · rw [sI_wo (by decide), sI_w1]
  · rw [sI_wo (by decide), sI_wo (by decide), sI_wo (by decide), a3]
  · rw [sI_wo (by decide), sI_wo (by decide), sI_wo (by decide), a4 k hk, sI_wo (by decide), sI_wo (by decide)]
  · rw [sI_wo (by omega), sI_wo (by omega), sI_wo (by omega), a5 x h1 h2 k hk, sI_wo (by omega), sI_wo (by omega)]
theorem faultM_s {ρ : St} {F : Nat} {sh fr : Int32} (M : Lay ρ) (h1 : 1 ≤ F) (h4 : F ≤ 4) (h40 : sI ρ 101 40 = nI F) :
    f12_rules_p95 ρ 101 sh fr = some (-1 - nI F, wI (wI ρ 101 35 0) 101 42 (sI ρ 101 41)) := by
  have M1 : Lay (wI ρ 101 35 0) := Lay_wI M
  have M2 : Lay (wI (wI ρ 101 35 0) 101 42 (sI ρ 101 41)) := Lay_wI M1
  have ne : nI F ≠ 0 := nI_ne0 (by omega) (by omega)
  unfold f12_rules_p95 f12_rules_p116
  rw [gd_t (oL101 M), lt_b, bd_s (isWell_f ⟨M1, by rw [sI_wk (by decide), h40]; exact ne⟩), if_pos rfl, gd_t (oL101 M1), lt_b, sI_wk (j := 41) (by decide), gd_t (oL101 M2), bd_s (isWell_f ⟨M2, by rw [sI_wk (by decide), sI_wk (by decide), h40]; exact ne⟩), if_pos rfl, sI_wk (by decide), sI_wk (by decide), h40]
/-- a row of the reference that nothing touched -/
theorem TxM_row {δ ε σ τ : St} {a C R T : Nat} (hC : C ≤ 400) (hR : R ≤ 20) (e : ∀ q k, q < 5 → sI ε (a + 1 + q) k = sI δ (a + 1 + q) k) (f : ∀ x k, x = 120 ∧ 420 * T ≤ k ∧ k < 420 * T + 420 ∨ x = 122 ∧ k = T ∨ 123 ≤ x ∧ x ≤ 127 ∧ 20 * T ≤ k ∧ k < 20 * T + 20 → sI τ x k = sI σ x k) (M : TxM δ σ a C R T) : TxM ε τ a C R T := by
  obtain ⟨en, st, -, -⟩ := tx_cg e
  have e1 : sI ε (a + 1) = sI δ (a + 1) := funext fun k => e 0 k (by decide)
  have e2 : sI ε (a + 2) = sI δ (a + 2) := funext fun k => e 1 k (by decide)
  have e4 : sI ε (a + 4) = sI δ (a + 4) := funext fun k => e 3 k (by decide)
  have e5 : sI ε (a + 5) = sI δ (a + 5) := funext fun k => e 4 k (by decide)
  obtain ⟨m1, m2, m3, m4⟩ := M
  refine ⟨m1, by rw [f _ _ (by omega)]; exact m2, fun k hk => by rw [f _ _ (by omega), e1]; exact m3 k hk, fun r hr => ?_⟩
  rw [f 123 _ (by omega), f 126 _ (by omega), f 127 _ (by omega), f 124 _ (by omega), f 125 _ (by omega), e2, e4, e5, en, st]
  exact m4 r hr
