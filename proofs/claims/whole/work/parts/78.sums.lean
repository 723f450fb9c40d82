/-! COUNT: sums -/
theorem ground_l {σ : St} (L : Lay σ) {n : Nat} (hn : sI σ 2 5 = nI n) (h6 : n ≤ 6) : ∀ (j i fuel : Nat), i + j = n → j < fuel → f8_sacksGround_p4 fuel σ 2 (smF (fun m => sI σ (29 + m) 4) i) (nI i) = some (smF (fun m => sI σ (29 + m) 4) n, σ) := by
  intro j
  induction j with
  | zero =>
    intro i fuel hi hf
    obtain ⟨f, rfl, -⟩ := suc_of hf
    have : i = n := by omega
    subst this
    rw [f8_sacksGround_p4, gd_t (oL2 L), hn, if_neg (nI_nlt (by omega) (by omega))]
  | succ j ih =>
    intro i fuel hi hf
    obtain ⟨f, rfl, hf2⟩ := suc_of hf
    have hb := lay_boat L (show i < 6 by omega)
    rw [f8_sacksGround_p4, gd_t (oL2 L), hn, if_pos (nI_lt (by omega) (by omega)), lt_b, rL2_2 L, gd_t nz_s, gd_t (oL5 L), gd_t (inb_n (lL5 L) (by omega) (by decide)), lt_b, ix_n (by omega), hb.1, gd_t (nz_t (by omega)), gd_t (oboat L (by omega)), lt_b, lt_b, nI_1]
    exact ih (i + 1) f (by omega) (by omega)
theorem tolls_l {σ : St} (L : Lay σ) {n : Nat} (hn : sI σ 2 5 = nI n) (h6 : n ≤ 6) : ∀ (j i fuel : Nat), i + j = n → j < fuel → f8_tollsTaken_p4 fuel σ 2 (smF (fun m => sI σ (29 + m) 5) i) (nI i) = some (smF (fun m => sI σ (29 + m) 5) n, σ) := by
  intro j
  induction j with
  | zero =>
    intro i fuel hi hf
    obtain ⟨f, rfl, -⟩ := suc_of hf
    have : i = n := by omega
    subst this
    rw [f8_tollsTaken_p4, gd_t (oL2 L), hn, if_neg (nI_nlt (by omega) (by omega))]
  | succ j ih =>
    intro i fuel hi hf
    obtain ⟨f, rfl, hf2⟩ := suc_of hf
    have hb := lay_boat L (show i < 6 by omega)
    rw [f8_tollsTaken_p4, gd_t (oL2 L), hn, if_pos (nI_lt (by omega) (by omega)), lt_b, rL2_2 L, gd_t nz_s, gd_t (oL5 L), gd_t (inb_n (lL5 L) (by omega) (by decide)), lt_b, ix_n (by omega), hb.1, gd_t (nz_t (by omega)), gd_t (oboat L (by omega)), lt_b, lt_b, nI_1]
    exact ih (i + 1) f (by omega) (by omega)
theorem left_l {σ : St} (L : Lay σ) {n : Nat} (hn : sI σ 70 9 = nI n) (h6 : n ≤ 60) : ∀ (j i fuel : Nat), i + j = n → j < fuel → f3_sacksLeft_p4 fuel σ 70 (smF (sI σ 75) i) (nI i) = some (smF (sI σ 75) n, σ) := by
  intro j
  induction j with
  | zero =>
    intro i fuel hi hf
    obtain ⟨f, rfl, -⟩ := suc_of hf
    have : i = n := by omega
    subst this
    rw [f3_sacksLeft_p4, gd_t (oL70 L), hn, if_neg (nI_nlt (by omega) (by omega))]
  | succ j ih =>
    intro i fuel hi hf
    obtain ⟨f, rfl, hf2⟩ := suc_of hf
    rw [f3_sacksLeft_p4, gd_t (oL70 L), hn, if_pos (nI_lt (by omega) (by omega)), lt_b, rL70_6 L, gd_t nz_s, gd_t (oL75 L), gd_t (inb_n (lL75 L) (by omega) (by decide)), lt_b, ix_n (by omega), lt_b, nI_1]
    exact ih (i + 1) f (by omega) (by omega)
def cnF (p : Nat → Bool) : Nat → Int32
  | 0 => 0
  | n + 1 => if p n = true then cnF p n + 1 else cnF p n
theorem cnF_s (p : Nat → Bool) (i : Nat) : cnF p (i + 1) = if p i = true then cnF p i + 1 else cnF p i := rfl
theorem cnF_congr {p q : Nat → Bool} : ∀ n, (∀ k, k < n → p k = q k) → cnF p n = cnF q n := by
  intro n
  induction n with
  | zero => intro _; rfl
  | succ n ih =>
    intro h
    unfold cnF
    rw [h n (by omega), ih (fun k hk => h k (by omega))]
theorem lying_l {σ : St} (L : Lay σ) {n : Nat} (hn : sI σ 2 5 = nI n) (h6 : n ≤ 6) : ∀ (j i fuel : Nat), i + j = n → j < fuel → f8_lyingAtBerths_p4 fuel σ 2 (cnF (fun m => decide (0 ≤ sI σ 6 m)) i) (nI i) = some (cnF (fun m => decide (0 ≤ sI σ 6 m)) n, σ) := by
  intro j
  induction j with
  | zero =>
    intro i fuel hi hf
    obtain ⟨f, rfl, -⟩ := suc_of hf
    have : i = n := by omega
    subst this
    rw [f8_lyingAtBerths_p4, gd_t (oL2 L), hn, if_neg (nI_nlt (by omega) (by omega))]
  | succ j ih =>
    intro i fuel hi hf
    obtain ⟨f, rfl, hf2⟩ := suc_of hf
    have e := ih (i + 1) f (by omega) (by omega)
    rw [f8_lyingAtBerths_p4, gd_t (oL2 L), hn, if_pos (nI_lt (by omega) (by omega)), lt_b, rL2_3 L, gd_t nz_s, gd_t (oL6 L), gd_t (inb_n (lL6 L) (by omega) (by decide)), ix_n (by omega)]
    by_cases c : sI σ 6 i < 0
    · rw [if_pos c]
      unfold f8_lyingAtBerths_p27
      rw [lt_b, lt_b, nI_1, Int32.add_zero]
      rw [cnF_s] at e
      rw [if_neg (by rw [decide_eq_true_eq]; exact Int32.not_le.mpr c)] at e
      exact e
    · rw [if_neg c]
      unfold f8_lyingAtBerths_p27
      rw [lt_b, lt_b, nI_1]
      rw [cnF_s] at e
      rw [if_pos (by rw [decide_eq_true_eq]; exact Int32.not_lt.mp c)] at e
      exact e
theorem gone_l {σ : St} (L : Lay σ) {n : Nat} (hn : sI σ 2 5 = nI n) (h6 : n ≤ 6) : ∀ (j i fuel : Nat), i + j = n → j < fuel → f8_goneBoats_p4 fuel σ 2 (cnF (fun m => decide (sI σ 6 m = -2)) i) (nI i) = some (cnF (fun m => decide (sI σ 6 m = -2)) n, σ) := by
  intro j
  induction j with
  | zero =>
    intro i fuel hi hf
    obtain ⟨f, rfl, -⟩ := suc_of hf
    have : i = n := by omega
    subst this
    rw [f8_goneBoats_p4, gd_t (oL2 L), hn, if_neg (nI_nlt (by omega) (by omega))]
  | succ j ih =>
    intro i fuel hi hf
    obtain ⟨f, rfl, hf2⟩ := suc_of hf
    have e := ih (i + 1) f (by omega) (by omega)
    rw [f8_goneBoats_p4, gd_t (oL2 L), hn, if_pos (nI_lt (by omega) (by omega)), lt_b, rL2_3 L, gd_t nz_s, gd_t (oL6 L), gd_t (inb_n (lL6 L) (by omega) (by decide)), ix_n (by omega)]
    by_cases c : sI σ 6 i = -2
    · rw [if_pos c]
      unfold f8_goneBoats_p29
      rw [lt_b, lt_b, nI_1]
      rw [cnF_s] at e
      rw [if_pos (by rw [decide_eq_true_eq]; exact c)] at e
      exact e
    · rw [if_neg c]
      unfold f8_goneBoats_p29
      rw [lt_b, lt_b, nI_1, Int32.add_zero]
      rw [cnF_s] at e
      rw [if_neg (by rw [decide_eq_true_eq]; exact c)] at e
      exact e
theorem many_l {σ : St} (L : Lay σ) {n : Nat} (hn : sI σ 101 5 = nI n) (h6 : n ≤ 6) (g : Int32) (p : Nat → Bool) (hp : ∀ m, m < n → (p m = true ↔ if g = 0 then 0 ≤ sI σ 109 m else sI σ 109 m = -2)) : ∀ (j i fuel : Nat), i + j = n → j < fuel → f12_many_p4 fuel σ 101 g (cnF p i) (nI i) = some (cnF p n, σ) := by
  intro j
  induction j with
  | zero =>
    intro i fuel hi hf
    obtain ⟨f, rfl, -⟩ := suc_of hf
    have : i = n := by omega
    subst this
    rw [f12_many_p4, gd_t (oL101 L), hn, if_neg (nI_nlt (by omega) (by omega))]
  | succ j ih =>
    intro i fuel hi hf
    obtain ⟨f, rfl, hf2⟩ := suc_of hf
    have e := ih (i + 1) f (by omega) (by omega)
    have h := hp i (by omega)
    rw [cnF_s] at e
    have up : p i = true → f12_many_p39 (f12_many_p4 f) σ 101 g (cnF p i) (nI i) = some (cnF p n, σ) := fun w => by
      unfold f12_many_p39 f12_many_p42
      rw [if_pos w] at e
      rw [lt_b, lt_b, nI_1]
      exact e
    have dn : ¬ p i = true → f12_many_p42 (f12_many_p4 f) σ 101 g (cnF p i) (nI i) = some (cnF p n, σ) := fun w => by
      unfold f12_many_p42
      rw [if_neg w] at e
      rw [lt_b, nI_1]
      exact e
    rw [f12_many_p4, gd_t (oL101 L), hn, if_pos (nI_lt (by omega) (by omega))]
    by_cases c : g = 0
    · rw [if_pos c] at h ⊢
      rw [lt_b, rL101_9 L, gd_t nz_s, gd_t (oL109 L), gd_t (inb_n (lL109 L) (by omega) (by decide)), ix_n (by omega)]
      by_cases c2 : sI σ 109 i < 0
      · rw [if_pos c2]
        exact dn (fun w => Int32.not_le.mpr c2 (h.mp w))
      · rw [if_neg c2]
        exact up (h.mpr (Int32.not_lt.mp c2))
    · rw [if_neg c] at h ⊢
      rw [lt_b, rL101_9 L, gd_t nz_s, gd_t (oL109 L), gd_t (inb_n (lL109 L) (by omega) (by decide)), ix_n (by omega)]
      by_cases c2 : sI σ 109 i = -2
      · rw [if_pos c2]
        exact up (h.mpr c2)
      · rw [if_neg c2]
        exact dn (fun w => c2 (h.mp w))
