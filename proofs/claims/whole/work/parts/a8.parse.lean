/-! PARSING side by side: what both share at token k, with c signs, l lets, o open brackets -/
def Ctx (t : Nat → Int32) (s N : Nat) : Prop := s ≤ 400 ∧ Byt t s ∧ N ≤ 400 ∧ tpF t s N = s ∧ ∀ q, q < N → tpF t s q < s
def PR (t : Nat → Int32) (s N k c l o : Nat) (σ ρ : St) : Prop :=
  (Lay σ ∧ gP σ ∧ sI σ 46 6 = nI (N + 1) ∧ Tks t s (N + 1) σ) ∧ (k ≤ N ∧ sI σ 46 7 = nI k ∧ sI σ 46 8 = tkF t s (tpF t s k) ∧ sI σ 46 9 = nI l ∧ l ≤ 6 ∧ sI σ 46 10 = nI o ∧ sI σ 52 5 = nI c ∧ sI σ 46 11 = 0 ∧ sI σ 46 12 = -1) ∧
  (Lay ρ ∧ Tpm t s ρ ∧ Tkm t s (tpF t s k) ρ ∧ sI ρ 101 40 = 0 ∧ sI ρ 101 43 = nI o ∧ sI ρ 101 44 = nI l ∧ sI ρ 121 24 = nI c) ∧ NmR σ ρ l ∧ ∀ i, i < c → sI ρ 120 (10080 + i) = mpF (sI σ 53 i)
def FR (σ ρ : St) : Prop := (Lay σ ∧ Lay ρ) ∧ ∃ F p, 1 ≤ F ∧ F ≤ 4 ∧ p ≤ 400 ∧ sI σ 46 11 = nI F ∧ sI σ 46 12 = nI p ∧ sI ρ 101 40 = nI F ∧ sI ρ 101 41 = nI p
def Wpc (x k : Nat) : Prop := x = 46 ∧ (k = 7 ∨ k = 8 ∨ k = 10 ∨ k = 11 ∨ k = 12) ∨ x = 52 ∧ k = 5 ∨ x = 53
def Wpm (x k : Nat) : Prop := x = 101 ∧ (36 ≤ k ∧ k ≤ 41 ∨ k = 43) ∨ x = 120 ∧ 10080 ≤ k ∨ x = 121 ∧ k = 24
theorem nx_pm {x k : Nat} (h : Wnx x k) : Wpm x k := by unfold Wnx at h; unfold Wpm; omega
theorem NmR_Fr {W V : Nat → Nat → Prop} {σ ρ σ' ρ' : St} {l : Nat} (f : Fr W σ σ') (g : Fr V ρ ρ') (L : Lay σ) (M : Lay ρ) (hw : ∀ k, ¬ W 51 k) (hv : ∀ x k, x = 132 ∨ x = 133 → ¬ V x k) (R : NmR σ ρ l) : NmR σ' ρ' l := by
  have hN := L.2.2
  have hM := M.2.2
  have e51 : ∀ i, sL σ' 51 i = sL σ 51 i := fun i => (f.2.2.1 51 i (by omega) (hw i)).2.1
  have e132 : sI ρ' 132 = sI ρ 132 := funext fun i => Fr_i g (by omega) (hv _ _ (Or.inl rfl))
  refine ⟨fun i hi => by rw [e51]; exact R.1 i hi, fun i hi => ?_⟩
  obtain ⟨z, z1, z2, z3, z4⟩ := R.2 i hi
  exact ⟨z, z1, by rw [Fr_i g (by omega) (hv _ _ (Or.inr rfl))]; exact z2, by rw [e132]; exact z3, by rw [e51, e132]; exact z4⟩
theorem gP_Fr {W : Nat → Nat → Prop} {σ σ' : St} (f : Fr W σ σ') (L : Lay σ) (hw : ∀ k, ¬ W 50 k) (P : gP σ) : gP σ' := fun i hi => by
  have hN := L.2.2
  rw [(f.2.2.1 50 i (by omega) (hw i)).2.1]; exact P i hi
theorem Tks_F {W : Nat → Nat → Prop} {t : Nat → Int32} {s n : Nat} {σ σ' : St} (f : Fr W σ σ') (L : Lay σ) (hw : ∀ x k, x = 47 ∨ x = 48 ∨ x = 49 → ¬ W x k) (T : Tks t s n σ) : Tks t s n σ' := by
  have hN := L.2.2
  exact Tks_Fr T (fun k => Fr_i f (by omega) (hw _ _ (by omega))) (fun k => Fr_i f (by omega) (hw _ _ (by omega))) (fun k => (f.2.2.1 49 k (by omega) (hw _ _ (by omega))).2.1)
theorem tp_end {t : Nat → Int32} {s N k : Nat} (C : Ctx t s N) (hk : k ≤ N) : tkF t s (tpF t s k) ≠ -1 → k < N := by
  intro h
  by_cases e : k = N
  · rw [e, C.2.2.2.1] at h
    exact absurd (by unfold tkF; rw [if_neg (by omega)]) h
  · omega
theorem tp_le {t : Nat → Int32} {s N : Nat} (C : Ctx t s N) (k : Nat) : tpF t s k ≤ s := (tpF_le k).1
theorem PR_step {t : Nat → Int32} {s N k c l o : Nat} {σ ρ : St} (C : Ctx t s N) (P : PR t s N k c l o σ ρ) (hk : k < N) : ∃ σ' ρ', f7_step σ 46 = some ((), σ') ∧ f12_next ρ 101 = some ((), ρ') ∧ PR t s N (k + 1) c l o σ' ρ' ∧ Fr Wpc σ σ' ∧ Fr Wpm ρ ρ' ∧ sI σ' 53 = sI σ 53 := by
  obtain ⟨⟨L, K, h6, T⟩, ⟨kN, h7, h8, h9, l6, h10, h5, h11, h12⟩, ⟨M, Tp, Tk, m40, m43, m44, m24⟩, R, co⟩ := P
  obtain ⟨hs, B, N4, tN, tq⟩ := C
  have hN := L.2.2
  have hM := M.2.2
  have te := teF_sp (t := t) (tpF_le (t := t) (s := s) k).1
  obtain ⟨ρ', n1, n2, n3⟩ := next_s hs B M Tp te.2.1 Tk.2.1
  have f1 : Fr Wpc σ (wI (wI σ 46 7 (nI (k + 1))) 46 8 (tkF t s (tpF t s (k + 1)))) := by
    refine Fr_wI (Fr_wI Fr_rf ?_) ?_ <;> exact Or.inl (by unfold Wpc; omega)
  have km : ∀ x j, x ≤ 153 → ¬ Wnx x j → sI ρ' x j = sI ρ x j := fun x j h1 h2 => Fr_i n2 (by omega) h2
  have e53 : sI (wI (wI σ 46 7 (nI (k + 1))) 46 8 (tkF t s (tpF t s (k + 1)))) 53 = sI σ 53 := funext fun q => by rw [sI_wo (by decide), sI_wo (by decide)]
  refine ⟨wI (wI σ 46 7 (nI (k + 1))) 46 8 (tkF t s (tpF t s (k + 1))), ρ', ?_, n1, ⟨⟨Lay_wI (Lay_wI L), gP_Fr f1 L (fun q => by unfold Wpc; omega) K, by rw [sI_wk (by decide), sI_wk (by decide)]; exact h6, Tks_F f1 L (fun x q hq => by unfold Wpc; omega) T⟩, ⟨hk, by rw [sI_wk (by decide), sI_w1], sI_w1 _ _ _ _, by rw [sI_wk (by decide), sI_wk (by decide)]; exact h9, l6, by rw [sI_wk (by decide), sI_wk (by decide)]; exact h10, by rw [sI_wo (by decide), sI_wo (by decide)]; exact h5, by rw [sI_wk (by decide), sI_wk (by decide)]; exact h11, by rw [sI_wk (by decide), sI_wk (by decide)]; exact h12⟩, ⟨Lay_Fr n2 M, Tpm_Fr n2 M (fun x q hq => by unfold Wnx; omega) Tp, n3, by rw [km _ _ (by omega) (by unfold Wnx; omega)]; exact m40, by rw [km _ _ (by omega) (by unfold Wnx; omega)]; exact m43, by rw [km _ _ (by omega) (by unfold Wnx; omega)]; exact m44, by rw [km _ _ (by omega) (by unfold Wnx; omega)]; exact m24⟩, NmR_Fr f1 n2 L M (fun q => by unfold Wpc; omega) (fun x q hq => by unfold Wnx; omega) R, fun i hi => by rw [km 120 _ (by omega) (by unfold Wnx; omega), e53]; exact co i hi⟩, f1, Fr_mo n2 (fun _ _ => nx_pm), e53⟩
  unfold f7_step
  have eN : nI (N + 1) - 1 = nI N := nI_pred N
  have L1 : Lay (wI σ 46 7 (nI (k + 1))) := Lay_wI L
  have tk := T (k + 1) (by omega)
  rw [gd_t (oL46 L), h7, h6, eN, if_pos (nI_lt hk (by omega)), lt_b, rL46_0 L, gd_t nz_s, gd_t (oL47 L), lL47 L, if_pos (show nI k < Int32.ofNat 401 - 1 from nI_lt (b := 400) (by omega) (by decide)), nI_1, lt_b, sI_w1, gd_t (inb_n (lL47 L1) (by omega) (by decide)), ix_n (by omega), sI_wo (by decide), tk.1, lt_b]
theorem PR_open {t : Nat → Int32} {s N k c l o : Nat} {σ ρ : St} (P : PR t s N k c l o σ ρ) (u : Nat) : PR t s N k c l u (wI σ 46 10 (nI u)) (wI ρ 101 43 (nI u)) := by
  obtain ⟨⟨L, K, h6, T⟩, ⟨kN, h7, h8, h9, l6, h10, h5, h11, h12⟩, ⟨M, Tp, Tk, m40, m43, m44, m24⟩, R, co⟩ := P
  have f1 : Fr Wpc σ (wI σ 46 10 (nI u)) := Fr_wI Fr_rf (Or.inl (by unfold Wpc; omega))
  have f2 : Fr Wpm ρ (wI ρ 101 43 (nI u)) := Fr_wI Fr_rf (Or.inl (by unfold Wpm; omega))
  refine ⟨⟨Lay_wI L, gP_Fr f1 L (fun q => by unfold Wpc; omega) K, by rw [sI_wk (by decide)]; exact h6, Tks_F f1 L (fun x q hq => by unfold Wpc; omega) T⟩, ⟨kN, by rw [sI_wk (by decide)]; exact h7, by rw [sI_wk (by decide)]; exact h8, by rw [sI_wk (by decide)]; exact h9, l6, sI_w1 _ _ _ _, by rw [sI_wo (by decide)]; exact h5, by rw [sI_wk (by decide)]; exact h11, by rw [sI_wk (by decide)]; exact h12⟩, ⟨Lay_wI M, Tpm_Fr f2 M (fun x q hq => by unfold Wpm; omega) Tp, ⟨by rw [sI_wk (by decide)]; exact Tk.1, by rw [sI_wk (by decide)]; exact Tk.2.1, by rw [sI_wk (by decide)]; exact Tk.2.2.1, fun h => by rw [sI_wk (by decide)]; exact Tk.2.2.2.1 h, fun h => by rw [sI_wk (by decide)]; exact Tk.2.2.2.2 h⟩, by rw [sI_wk (by decide)]; exact m40, sI_w1 _ _ _ _, by rw [sI_wk (by decide)]; exact m44, by rw [sI_wo (by decide)]; exact m24⟩, NmR_Fr f1 f2 L M (fun q => by unfold Wpc; omega) (fun x q hq => by unfold Wpm; omega) R, fun i hi => by rw [sI_wo (by decide), sI_wo (by decide)]; exact co i hi⟩
theorem PR_fail {t : Nat → Int32} {s N k c l o F : Nat} {σ ρ : St} (C : Ctx t s N) (P : PR t s N k c l o σ ρ) (h1 : 1 ≤ F) (h4 : F ≤ 4) : ∃ σ' ρ', f7_refuse σ 46 (nI F) = some (0, σ') ∧ f12_fails ρ 101 (nI F) = some ((), ρ') ∧ FR σ' ρ' ∧ Fr Wpc σ σ' ∧ Fr Wpm ρ ρ' := by
  obtain ⟨⟨L, K, h6, T⟩, ⟨kN, h7, h8, h9, l6, h10, h5, h11, h12⟩, ⟨M, Tp, Tk, m40, m43, m44, m24⟩, R, co⟩ := P
  have tk := T k (by omega)
  have tl := tp_le C k
  have hs := C.1
  have N4 := C.2.2.1
  have L1 : Lay (wI σ 46 11 (nI F)) := Lay_wI L
  refine ⟨wI (wI σ 46 11 (nI F)) 46 12 (nI (tpF t s k)), wI (wI ρ 101 40 (nI F)) 101 41 (nI (tpF t s k)), ?_, ?_, ⟨⟨Lay_wI (Lay_wI L), Lay_wI (Lay_wI M)⟩, F, tpF t s k, h1, h4, by omega, by rw [sI_wk (by decide), sI_w1], sI_w1 _ _ _ _, by rw [sI_wk (by decide), sI_w1], sI_w1 _ _ _ _⟩, ?_, ?_⟩
  · unfold f7_refuse f7_refuse_p38
    rw [gd_t (oL46 L), lt_b, sI_wk (by decide), h7, if_neg (nI_pos (by omega)), lt_b, rL46_1 L1, gd_t nz_s, gd_t (oL48 L1), lL48 L1, if_pos (show nI k < Int32.ofNat 401 from nI_lt (by omega) (by decide)), gd_t (inb_n (lL48 L1) (by omega) (by decide)), gd_t (oL46 L1), ix_n (by omega), sI_wo (by decide), tk.2.1, lt_b]
  · unfold f12_fails
    rw [gd_t (oL101 M), m40, if_pos rfl, lt_b, lt_b, sI_wk (by decide), Tk.1]
  · refine Fr_wI (Fr_wI Fr_rf ?_) ?_ <;> exact Or.inl (by unfold Wpc; omega)
  · refine Fr_wI (Fr_wI Fr_rf ?_) ?_ <;> exact Or.inl (by unfold Wpm; omega)
theorem isWell_w {ρ : St} (M : Lay ρ) (h : sI ρ 101 40 = 0) : f12_isWell ρ 101 = some (1, ρ) := by
  unfold f12_isWell
  rw [gd_t (oL101 M), if_pos h]
theorem PR_emit {t : Nat → Int32} {s N k c l o : Nat} {σ ρ : St} (P : PR t s N k c l o σ ρ) (hc : c < 400) (x : Int32) : ∃ σ' ρ', f10_emit σ 52 x = some ((), σ') ∧ f12_emits ρ 101 (mpF x) = some ((), ρ') ∧ PR t s N k (c + 1) l o σ' ρ' ∧ Fr Wpc σ σ' ∧ Fr Wpm ρ ρ' ∧ ∀ q, sI σ' 53 q = up (sI σ 53) c x q := by
  obtain ⟨⟨L, K, h6, T⟩, ⟨kN, h7, h8, h9, l6, h10, h5, h11, h12⟩, ⟨M, Tp, Tk, m40, m43, m44, m24⟩, R, co⟩ := P
  have f1 : Fr Wpc σ (wI (wI σ 53 c x) 52 5 (nI (c + 1))) := by
    refine Fr_wI (Fr_wI Fr_rf ?_) ?_ <;> exact Or.inl (by unfold Wpc; omega)
  have f2 : Fr Wpm ρ (wI (wI ρ 120 (10080 + c) (mpF x)) 121 24 (nI (c + 1))) := by
    refine Fr_wI (Fr_wI Fr_rf ?_) ?_ <;> exact Or.inl (by unfold Wpm; omega)
  have e53 : ∀ q, sI (wI (wI σ 53 c x) 52 5 (nI (c + 1))) 53 q = up (sI σ 53) c x q := fun q => by rw [sI_wo (by decide)]; exact up_w σ 53 c x q
  refine ⟨_, _, ?_, ?_, ⟨⟨Lay_wI (Lay_wI L), gP_Fr f1 L (fun q => by unfold Wpc; omega) K, by rw [sI_wo (by decide), sI_wo (by decide)]; exact h6, Tks_F f1 L (fun x q hq => by unfold Wpc; omega) T⟩, ⟨kN, by rw [sI_wo (by decide), sI_wo (by decide)]; exact h7, by rw [sI_wo (by decide), sI_wo (by decide)]; exact h8, by rw [sI_wo (by decide), sI_wo (by decide)]; exact h9, l6, by rw [sI_wo (by decide), sI_wo (by decide)]; exact h10, sI_w1 _ _ _ _, by rw [sI_wo (by decide), sI_wo (by decide)]; exact h11, by rw [sI_wo (by decide), sI_wo (by decide)]; exact h12⟩, ⟨Lay_wI (Lay_wI M), Tpm_Fr f2 M (fun x q hq => by unfold Wpm; omega) Tp, ⟨by rw [sI_wo (by decide), sI_wo (by decide)]; exact Tk.1, by rw [sI_wo (by decide), sI_wo (by decide)]; exact Tk.2.1, by rw [sI_wo (by decide), sI_wo (by decide)]; exact Tk.2.2.1, fun h => by rw [sI_wo (by decide), sI_wo (by decide)]; exact Tk.2.2.2.1 h, fun h => by rw [sI_wo (by decide), sI_wo (by decide)]; exact Tk.2.2.2.2 h⟩, by rw [sI_wo (by decide), sI_wo (by decide)]; exact m40, by rw [sI_wo (by decide), sI_wo (by decide)]; exact m43, by rw [sI_wo (by decide), sI_wo (by decide)]; exact m44, sI_w1 _ _ _ _⟩, NmR_Fr f1 f2 L M (fun q => by unfold Wpc; omega) (fun x q hq => by unfold Wpm; omega) R, fun i hi => ?_⟩, f1, f2, e53⟩
  · unfold f10_emit
    rw [gd_t (oL52 L), lt_b, rL52_0 L, gd_t nz_s, gd_t (oL53 L), h5, lL53 L, if_pos (show nI c < Int32.ofNat 400 from nI_lt hc (by decide)), gd_t (inb_n (lL53 L) hc (by decide)), lt_b, ix_n (by omega), sI_wo (by decide), h5, nI_1, lt_b]
  · have e1 : (10080 : Int32) + nI c = nI (10080 + c) := nI_add 10080 c
    unfold f12_emits
    rw [gd_t (oL101 M), bd_s (isWell_w M m40), if_neg (by decide), lt_b, rL101_23 M, gd_t nz_s, lt_b, rL101_24 M, gd_t nz_s, gd_t (oL121 M), show (24 : Int32) = nI 24 from rfl, gd_t (inb_n (lL121 M) (by decide) (by decide)), gd_t (oL120 M), ix_n (k := 24) (by decide), m24, e1, gd_t (inb_n (lL120 M) (by omega) (by decide)), lt_b, ix_n (by omega), sI_wo (by decide), m24, nI_1, lt_b]
  · rw [sI_wo (by decide), e53]
    unfold up
    by_cases c1 : i = c
    · rw [if_pos c1, c1, sI_w1]
    · rw [if_neg c1, sI_wk (by omega)]; exact co i (by omega)
/-! behind a fault the reference does nothing -/
def Flt (ρ : St) : Prop := Lay ρ ∧ sI ρ 101 40 ≠ 0
theorem FR_flt {σ ρ : St} (h : FR σ ρ) : Flt ρ := by
  obtain ⟨⟨-, M⟩, F, p, h1, h4, -, -, -, h5, -⟩ := h
  exact ⟨M, by rw [h5]; exact nI_ne0 (by omega) (by omega)⟩
theorem isWell_f {ρ : St} (h : Flt ρ) : f12_isWell ρ 101 = some (0, ρ) := by
  unfold f12_isWell
  rw [gd_t (oL101 h.1), if_neg h.2]
theorem fails_f {ρ : St} (h : Flt ρ) (x : Int32) : f12_fails ρ 101 x = some ((), ρ) := by
  unfold f12_fails
  rw [gd_t (oL101 h.1), if_neg h.2]
theorem emits_f {ρ : St} (h : Flt ρ) (x : Int32) : f12_emits ρ 101 x = some ((), ρ) := by
  unfold f12_emits
  rw [gd_t (oL101 h.1), bd_s (isWell_f h), if_pos rfl]
theorem wantSign_f {ρ : St} (h : Flt ρ) (x : Int32) : f12_wantSign ρ 101 x = some ((), ρ) := by
  unfold f12_wantSign
  rw [gd_t (oL101 h.1), bd_s (isWell_f h), if_pos rfl]
theorem wantWord_f {ρ : St} (h : Flt ρ) (x : Nat) : f12_wantWord ρ 101 x = some ((), ρ) := by
  unfold f12_wantWord
  rw [gd_t (oL101 h.1), bd_s (isWell_f h), if_pos rfl]
theorem factor_f {ρ : St} (h : Flt ρ) (G : St → Nat → Option (Unit × St)) : f12_factor G ρ 101 = some ((), ρ) := by
  unfold f12_factor
  rw [gd_t (oL101 h.1), bd_s (isWell_f h), if_pos rfl]
theorem productL_f {ρ : St} (h : Flt ρ) (G : St → Nat → Option (Unit × St)) (f : Nat) : f12_product_p4 G (f + 1) ρ 101 = some ((), ρ) := by
  rw [f12_product_p4, gd_t (oL101 h.1), bd_s (isWell_f h), if_pos rfl]
theorem product_f {ρ : St} (h : Flt ρ) (G : St → Nat → Option (Unit × St)) : f12_product G ρ 101 = some ((), ρ) := by
  unfold f12_product FU
  rw [gd_t (oL101 h.1), bd_s (factor_f h G), productL_f h G]
theorem sumL_f {ρ : St} (h : Flt ρ) (G : St → Nat → Option (Unit × St)) (f : Nat) : f12_sum_p4 G (f + 1) ρ 101 = some ((), ρ) := by
  rw [f12_sum_p4, gd_t (oL101 h.1), bd_s (isWell_f h), if_pos rfl]
theorem sum_f {ρ : St} (h : Flt ρ) (n : Nat) : f12_sum (n + 1) ρ 101 = some ((), ρ) := by
  show f12_sum_b (f12_sum n) ρ 101 = _
  unfold f12_sum_b FU
  rw [gd_t (oL101 h.1), bd_s (product_f h _), sumL_f h _]
theorem compares_f {ρ : St} (h : Flt ρ) : f12_compares ρ 101 = some ((), ρ) := by
  unfold f12_compares
  rw [gd_t (oL101 h.1), bd_s (sum_f h 7), bd_s (isWell_f h), if_pos rfl]
theorem part_f {ρ : St} (h : Flt ρ) (G : St → Nat → Option (Unit × St)) : f12_part G ρ 101 = some ((), ρ) := by
  unfold f12_part FU
  rw [f12_part_p2, gd_t (oL101 h.1), bd_s (isWell_f h), if_pos rfl]
  unfold f12_part_p36
  rw [gd_t (oL101 h.1), bd_s (isWell_f h), if_pos rfl]
theorem bothL_f {ρ : St} (h : Flt ρ) (G : St → Nat → Option (Unit × St)) (f : Nat) : f12_both_p4 G (f + 1) ρ 101 = some ((), ρ) := by
  rw [f12_both_p4, gd_t (oL101 h.1), bd_s (isWell_f h), if_pos rfl]
theorem both_f {ρ : St} (h : Flt ρ) (G : St → Nat → Option (Unit × St)) : f12_both G ρ 101 = some ((), ρ) := by
  unfold f12_both FU
  rw [gd_t (oL101 h.1), bd_s (part_f h G), bothL_f h G]
theorem condL_f {ρ : St} (h : Flt ρ) (G : St → Nat → Option (Unit × St)) (f : Nat) : f12_cond_p4 G (f + 1) ρ 101 = some ((), ρ) := by
  rw [f12_cond_p4, gd_t (oL101 h.1), bd_s (isWell_f h), if_pos rfl]
theorem cond_f {ρ : St} (h : Flt ρ) (n : Nat) : f12_cond (n + 1) ρ 101 = some ((), ρ) := by
  show f12_cond_b (f12_cond n) ρ 101 = _
  unfold f12_cond_b FU
  rw [gd_t (oL101 h.1), bd_s (both_f h _), condL_f h _]
