/-! the reference copies its row 24 to row T -/
def Wct (T x k : Nat) : Prop := x = 120 ∧ 420 * T ≤ k ∧ k < 420 * T + 420 ∨ (x = 121 ∨ x = 122) ∧ k = T ∨ 123 ≤ x ∧ x ≤ 127 ∧ 20 * T ≤ k ∧ k < 20 * T + 20
theorem ct_2 {T r : Nat} (hT : T < 24) (hr : r ≤ 20) : ∀ (j i fuel : Nat) (ρ : St), i + j = r → j < fuel → Lay ρ → sI ρ 122 24 = nI r →
    ∃ ρ', f12_copyText_p69 fuel ρ 101 (nI T) (nI i) = some ((), ρ') ∧ Fr (Wct T) ρ ρ' ∧ (∀ x k, x ≤ 122 → sI ρ' x k = sI ρ x k) ∧
      ∀ x, 123 ≤ x → x ≤ 127 → (∀ k, k < i → sI ρ' x (20 * T + k) = sI ρ x (20 * T + k)) ∧ ∀ k, i ≤ k → k < r → sI ρ' x (20 * T + k) = sI ρ x (480 + k) := by
  intro j
  induction j with
  | zero =>
    intro i fuel ρ hi hf M h
    obtain ⟨f, rfl, -⟩ := suc_of hf
    have : i = r := by omega
    subst this
    refine ⟨ρ, ?_, Fr_rf, fun _ _ _ => rfl, fun x _ _ => ⟨fun _ _ => rfl, fun k h1 h2 => absurd h2 (by omega)⟩⟩
    rw [f12_copyText_p69, gd_t (oL101 M), lt_b, rL101_25 M, gd_t nz_s, gd_t (oL122 M), show (24 : Int32) = nI 24 from rfl, gd_t (inb_n (lL122 M) (by decide) (by decide)), ix_n (by decide), h, if_neg (nI_nlt (by omega) (by omega))]
  | succ j ih =>
    intro i fuel ρ hi hf M h
    obtain ⟨f, rfl, -⟩ := suc_of hf
    have e20 : (20 : Int32) * nI T + nI i = nI (20 * T + i) := by
      have : (20 : Int32) * nI T = nI (20 * T) := pk_mul 20 T
      rw [this, nI_add]
    have e48 : (480 : Int32) + nI i = nI (480 + i) := nI_add 480 i
    let ρ1 : St := wI (wI (wI (wI (wI ρ 123 (20 * T + i) (sI ρ 123 (480 + i))) 124 (20 * T + i) (sI ρ 124 (480 + i))) 125 (20 * T + i) (sI ρ 125 (480 + i))) 126 (20 * T + i) (sI ρ 126 (480 + i))) 127 (20 * T + i) (sI ρ 127 (480 + i))
    have f1 : Fr (Wct T) ρ ρ1 := by
      refine Fr_wI (Fr_wI (Fr_wI (Fr_wI (Fr_wI Fr_rf ?_) ?_) ?_) ?_) ?_ <;> exact Or.inl (by unfold Wct; omega)
    have M1 : Lay ρ1 := Lay_Fr f1 M
    have lo : ∀ x k, x ≤ 122 → sI ρ1 x k = sI ρ x k := fun x k hx => by
      show sI (wI (wI (wI (wI (wI ρ 123 (20 * T + i) (sI ρ 123 (480 + i))) 124 (20 * T + i) (sI ρ 124 (480 + i))) 125 (20 * T + i) (sI ρ 125 (480 + i))) 126 (20 * T + i) (sI ρ 126 (480 + i))) 127 (20 * T + i) (sI ρ 127 (480 + i))) x k = _
      rw [sI_wo (by omega), sI_wo (by omega), sI_wo (by omega), sI_wo (by omega), sI_wo (by omega)]
    have hi1 : ∀ x k, 123 ≤ x → x ≤ 127 → sI ρ1 x k = if k = 20 * T + i then sI ρ x (480 + i) else sI ρ x k := fun x k h1 h2 => by
      show sI (wI (wI (wI (wI (wI ρ 123 (20 * T + i) (sI ρ 123 (480 + i))) 124 (20 * T + i) (sI ρ 124 (480 + i))) 125 (20 * T + i) (sI ρ 125 (480 + i))) 126 (20 * T + i) (sI ρ 126 (480 + i))) 127 (20 * T + i) (sI ρ 127 (480 + i))) x k = _
      have : x = 123 ∨ x = 124 ∨ x = 125 ∨ x = 126 ∨ x = 127 := by omega
      rcases this with rfl | rfl | rfl | rfl | rfl
      · rw [sI_wo (by decide), sI_wo (by decide), sI_wo (by decide), sI_wo (by decide), sI_ws]
      · rw [sI_wo (by decide), sI_wo (by decide), sI_wo (by decide), sI_ws, sI_wo (by decide)]
      · rw [sI_wo (by decide), sI_wo (by decide), sI_ws, sI_wo (by decide), sI_wo (by decide)]
      · rw [sI_wo (by decide), sI_ws, sI_wo (by decide), sI_wo (by decide), sI_wo (by decide)]
      · rw [sI_ws, sI_wo (by decide), sI_wo (by decide), sI_wo (by decide), sI_wo (by decide)]
    obtain ⟨ρ', a1, a2, a3, a4⟩ := ih (i + 1) f ρ1 (by omega) (by omega) M1 (by rw [lo _ _ (by omega)]; exact h)
    refine ⟨ρ', ?_, Fr_tr f1 a2, fun x k hx => by rw [a3 x k hx, lo x k hx], fun x h1 h2 => ⟨fun k hk => ?_, fun k hk1 hk2 => ?_⟩⟩
    · rw [f12_copyText_p69, gd_t (oL101 M), lt_b, rL101_25 M, gd_t nz_s, gd_t (oL122 M), show (24 : Int32) = nI 24 from rfl, gd_t (inb_n (lL122 M) (by decide) (by decide)), ix_n (k := 24) (by decide), h, if_pos (nI_lt (by omega) (by omega)), e48, e20]
      simp (disch := omega) only [gd_1, lt_b, bd_1, nz_s, ob_wI, inb_wI, sR_wI, sK_wI, oL101 M, rL101_1 M, rL101_2 M, rL101_3 M, rL101_4 M, rL101_6 M, rL101_7 M, rL101_8 M, rL101_9 M, rL101_10 M, rL101_11 M, rL101_12 M, rL101_13 M, rL101_16 M, rL101_17 M, rL101_18 M, rL101_20 M, rL101_21 M, rL101_22 M, rL101_23 M, rL101_24 M, rL101_25 M, rL101_26 M, rL101_27 M, rL101_28 M, rL101_29 M, rL101_30 M, rL101_31 M, rL101_32 M, rL101_33 M, rL101_34 M, rL101_45 M, rL101_46 M, rL101_47 M, rL101_48 M, rL101_50 M, rL101_53 M, rL101_54 M, rL101_56 M, rL101_57 M, rL101_58 M, rL101_59 M, rL101_60 M, rL101_63 M, rL101_64 M, rL101_65 M, rL101_66 M, rL101_67 M, rL101_74 M, rL101_75 M, rL101_77 M, rL101_78 M, oL123 M, inb_n (lL123 M), oL124 M, inb_n (lL124 M), oL125 M, inb_n (lL125 M), oL126 M, inb_n (lL126 M), oL127 M, inb_n (lL127 M), ix_n, sI_wo, nI_1]
      exact a1
    · rw [(a4 x h1 h2).1 k (by omega), hi1 x _ h1 h2, if_neg (by omega)]
    · by_cases q : k = i
      · rw [q, (a4 x h1 h2).1 i (by omega), hi1 x _ h1 h2, if_pos rfl]
      · rw [(a4 x h1 h2).2 k (by omega) hk2, hi1 x _ h1 h2, if_neg (by omega)]
theorem ct_1 {T c r : Nat} (hT : T < 24) (hc : c ≤ 400) (hr : r ≤ 20) : ∀ (j i fuel : Nat) (ρ : St), i + j = c → j < fuel → Lay ρ → sI ρ 121 24 = nI c → sI ρ 122 24 = nI r →
    ∃ ρ', f12_copyText_p28 fuel ρ 101 (nI T) (nI i) = some ((), ρ') ∧ Fr (Wct T) ρ ρ' ∧ (∀ x k, x ≤ 119 ∨ x = 121 ∨ x = 122 → sI ρ' x k = sI ρ x k) ∧
      (∀ k, k < i → sI ρ' 120 (420 * T + k) = sI ρ 120 (420 * T + k)) ∧ (∀ k, i ≤ k → k < c → sI ρ' 120 (420 * T + k) = sI ρ 120 (10080 + k)) ∧
      ∀ x, 123 ≤ x → x ≤ 127 → ∀ k, k < r → sI ρ' x (20 * T + k) = sI ρ x (480 + k) := by
  intro j
  induction j with
  | zero =>
    intro i fuel ρ hi hf M h h2
    obtain ⟨f, rfl, -⟩ := suc_of hf
    have : i = c := by omega
    subst this
    obtain ⟨ρ', a1, a2, a3, a4⟩ := ct_2 hT hr r 0 FU ρ (by omega) (by unfold FU; omega) M h2
    refine ⟨ρ', ?_, a2, fun x k hx => a3 x k (by omega), fun k hk => a3 _ _ (by omega), fun k h1 h2 => absurd h2 (by omega), fun x h1 h2 k hk => (a4 x h1 h2).2 k (by omega) hk⟩
    rw [f12_copyText_p28, gd_t (oL101 M), lt_b, rL101_24 M, gd_t nz_s, gd_t (oL121 M), show (24 : Int32) = nI 24 from rfl, gd_t (inb_n (lL121 M) (by decide) (by decide)), ix_n (by decide), h, if_neg (nI_nlt (by omega) (by omega))]
    exact a1
  | succ j ih =>
    intro i fuel ρ hi hf M h h2
    obtain ⟨f, rfl, -⟩ := suc_of hf
    have e42 : (420 : Int32) * nI T + nI i = nI (420 * T + i) := by
      have : (420 : Int32) * nI T = nI (420 * T) := pk_mul 420 T
      rw [this, nI_add]
    have e10 : (10080 : Int32) + nI i = nI (10080 + i) := nI_add 10080 i
    have f1 : Fr (Wct T) ρ (wI ρ 120 (420 * T + i) (sI ρ 120 (10080 + i))) := Fr_wI Fr_rf (Or.inl (by unfold Wct; omega))
    obtain ⟨ρ', a1, a2, a3, a4, a5, a6⟩ := ih (i + 1) f (wI ρ 120 (420 * T + i) (sI ρ 120 (10080 + i))) (by omega) (by omega) (Lay_wI M) (by rw [sI_wo (by decide)]; exact h) (by rw [sI_wo (by decide)]; exact h2)
    refine ⟨ρ', ?_, Fr_tr f1 a2, fun x k hx => by rw [a3 x k hx, sI_wo (by omega)], fun k hk => by rw [a4 k (by omega), sI_wk (by omega)], fun k hk1 hk2 => ?_, fun x q1 q2 k hk => by rw [a6 x q1 q2 k hk, sI_wo (by omega)]⟩
    · rw [f12_copyText_p28, gd_t (oL101 M), lt_b, rL101_24 M, gd_t nz_s, gd_t (oL121 M), show (24 : Int32) = nI 24 from rfl, gd_t (inb_n (lL121 M) (by decide) (by decide)), ix_n (k := 24) (by decide), h, if_pos (nI_lt (by omega) (by omega)), lt_b, rL101_23 M, gd_t nz_s, gd_t (oL120 M), e10, e42, gd_t (inb_n (lL120 M) (by omega) (by decide)), gd_t (inb_n (lL120 M) (by omega) (by decide)), lt_b, ix_n (by omega), ix_n (by omega), lt_b, nI_1]
      exact a1
    · by_cases q : k = i
      · rw [q, a4 i (by omega), sI_w1]
      · rw [a5 k (by omega) hk2, sI_wk (by omega)]
theorem copyText_s {ρ : St} {T c r : Nat} (M : Lay ρ) (hT : T < 24) (hc : c ≤ 400) (hr : r ≤ 20) (h : sI ρ 121 24 = nI c) (h2 : sI ρ 122 24 = nI r) :
    ∃ ρ', f12_copyText ρ 101 (nI T) = some ((), ρ') ∧ Fr (Wct T) ρ ρ' ∧ sI ρ' 122 T = nI r ∧ (∀ k, k < c → sI ρ' 120 (420 * T + k) = sI ρ 120 (10080 + k)) ∧ ∀ x, 123 ≤ x → x ≤ 127 → ∀ k, k < r → sI ρ' x (20 * T + k) = sI ρ x (480 + k) := by
  have f1 : Fr (Wct T) ρ (wI (wI ρ 121 T (nI c)) 122 T (nI r)) := by
    refine Fr_wI (Fr_wI Fr_rf ?_) ?_ <;> exact Or.inl (by unfold Wct; omega)
  have M1 : Lay (wI ρ 121 T (nI c)) := Lay_wI M
  obtain ⟨ρ', a1, a2, a3, a4, a5, a6⟩ := ct_1 hT hc hr c 0 FU (wI (wI ρ 121 T (nI c)) 122 T (nI r)) (by omega) (by unfold FU; omega) (Lay_wI M1) (by rw [sI_wo (by decide), sI_wk (by omega)]; exact h) (by rw [sI_wk (by omega), sI_wo (by decide)]; exact h2)
  refine ⟨ρ', ?_, Fr_tr f1 a2, by rw [a3 _ _ (by omega), sI_w1], fun k hk => by rw [a5 k (by omega) hk, sI_wo (by decide), sI_wo (by decide)], fun x q1 q2 k hk => by rw [a6 x q1 q2 k hk, sI_wo (by omega), sI_wo (by omega)]⟩
  unfold f12_copyText
  rw [gd_t (oL101 M), lt_b, rL101_24 M, gd_t nz_s, gd_t (oL121 M), show (24 : Int32) = nI 24 from rfl, gd_t (inb_n (lL121 M) (by decide) (by decide)), gd_t (inb_n (lL121 M) (by omega) (by decide)), lt_b, ix_n (k := T) (by omega), ix_n (k := 24) (by decide), h, lt_b, rL101_25 M1, gd_t nz_s, gd_t (oL122 M1), gd_t (inb_n (lL122 M1) (by decide) (by decide)), gd_t (inb_n (lL122 M1) (by omega) (by decide)), lt_b, sI_wo (a := 121) (by decide), h2]
  exact a1
