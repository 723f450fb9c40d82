theorem mp_neg {op : Int32} (h : op < 0) (h9 : ¬ op < -9) : mpF op < 0 ∧ (mpF op = -9 ↔ op = -7) := by
  have hop : op = -9 ∨ op = -8 ∨ op = -7 ∨ op = -6 ∨ op = -5 ∨ op = -4 ∨ op = -3 ∨ op = -2 ∨ op = -1 := by
    simp only [t_lt, t_eq] at h9 h ⊢
    have e0 : (0 : Int32).toInt = 0 := rfl
    have e1 : (-1 : Int32).toInt = -1 := rfl
    have e2 : (-2 : Int32).toInt = -2 := rfl
    have e3 : (-3 : Int32).toInt = -3 := rfl
    have e4 : (-4 : Int32).toInt = -4 := rfl
    have e5 : (-5 : Int32).toInt = -5 := rfl
    have e6 : (-6 : Int32).toInt = -6 := rfl
    have e7 : (-7 : Int32).toInt = -7 := rfl
    have e8 : (-8 : Int32).toInt = -8 := rfl
    have e9 : (-9 : Int32).toInt = -9 := rfl
    omega
  rcases hop with rfl | rfl | rfl | rfl | rfl | rfl | rfl | rfl | rfl <;> decide
theorem mp_pos {op : Int32} (h : ¬ op < 0) : mpF op = op := by
  unfold mpF
  rw [if_neg (fun q => by rw [q] at h; exact h (by decide)), if_neg (fun q => by rw [q] at h; exact h (by decide)), if_neg (fun q => by rw [q] at h; exact h (by decide))]
theorem works_l {T r e : Nat} (c : Nat → Int32) (env : Nat → Int32) (hT : T < 25) (hr20 : r < 20) (he : e ≤ 420) : ∀ (n i fuel : Nat) (σ : St) (st s : List Int32), Lay σ → sI σ 127 (20 * T + r) = nI e → (∀ k, k < e → sI σ 120 (420 * T + k) = mpF (c k)) → (∀ k, k < 15 → sI σ 134 k = env k) → rn c env n i st = some s → At (sI σ 135) st → st.length ≤ 60 → i + n = e → n < fuel →
    ∃ τ, f12_works_p19 fuel σ 101 (nI T) (nI st.length) (nI (20 * T + r)) (nI i) = some (sI τ 135 0, τ) ∧ Fr (fun x _ => x = 135) σ τ ∧ At (sI τ 135) s := by
  intro n
  induction n with
  | zero =>
    intro i fuel σ st s L hE hS hev hr hA hl hi hf
    obtain ⟨f, rfl, -⟩ := suc_of hf
    have ee : st = s := Option.some.inj hr
    refine ⟨σ, ?_, Fr_rf, by rw [← ee]; exact hA⟩
    rw [f12_works_p19, gd_t (oL101 L), lt_b, rL101_30 L, gd_t nz_s, gd_t (oL127 L), gd_t (inb_n (lL127 L) (by omega) (by decide)), ix_n (by omega), hE, if_neg (nI_nlt (by omega) (by omega)), lt_b, rL101_48 L, gd_t nz_s, gd_t (oL135 L), gd_t (inb_0 (lL135 L) (by decide) (by decide)), ix_0]
  | succ n ih =>
    intro i fuel σ st s L hE hS hev hr hA hl hi hf
    obtain ⟨f, rfl, hf2⟩ := suc_of hf
    have hN := L.2.2
    have nx : ∀ (τ0 : St) (q : List Int32), Fr (fun x _ => x = 135) σ τ0 → stp env (c i) st = some q → At (sI τ0 135) q → q.length ≤ 60 → ∃ τ, f12_works_p145 (f12_works_p19 f) τ0 101 (nI T) (nI q.length) (nI (20 * T + r)) (nI i) = some (sI τ 135 0, τ) ∧ Fr (fun x _ => x = 135) σ τ ∧ At (sI τ 135) s := by
      intro τ0 q fr hq hAq hlq
      rw [rn_s, hq] at hr
      have tr : ∀ x k, x ≤ 153 → x ≠ 135 → sI τ0 x k = sI σ x k := fun x k h1 h2 => Fr_i fr (by omega) h2
      obtain ⟨τ, w1, w2, w3⟩ := ih (i + 1) f τ0 q s (Lay_Fr fr L) (by rw [tr 127 _ (by decide) (by decide)]; exact hE) (fun k hk => by rw [tr 120 _ (by decide) (by decide)]; exact hS k hk) (fun k hk => by rw [tr 134 k (by decide) (by decide)]; exact hev k hk) hr hAq hlq (by omega) (by omega)
      refine ⟨τ, ?_, Fr_tr fr w2, w3⟩
      unfold f12_works_p145
      rw [lt_b, nI_1]
      exact w1
    have wr : ∀ (k : Nat) (v : Int32), Fr (fun x _ => x = 135) σ (wI σ 135 k v) := fun k v => Fr_wI Fr_rf (Or.inl rfl)
    have atw : ∀ (q : List Int32) (v : Int32), At (sI σ 135) q → At (sI (wI σ 135 q.length v) 135) (v :: q) := fun q v h => ⟨sI_w1 _ _ _ _, At_cg q (fun k hk => sI_wk (by omega)) h⟩
    have e420 : (420 : Int32) * nI T + nI i = nI (420 * T + i) := by
      have : (420 : Int32) * nI T = nI (420 * T) := pk_mul 420 T
      rw [this, nI_add]
    rw [f12_works_p19, gd_t (oL101 L), lt_b, rL101_30 L, gd_t nz_s, gd_t (oL127 L), gd_t (inb_n (lL127 L) (by omega) (by decide)), ix_n (by omega), hE, if_pos (nI_lt (by omega) (by omega)), lt_b, rL101_23 L, gd_t nz_s, gd_t (oL120 L), e420, gd_t (inb_n (lL120 L) (by omega) (by decide)), lt_b, ix_n (by omega), hS i (by omega)]
    cases hq : stp env (c i) st with
    | none => rw [rn_s, hq] at hr; cases hr
    | some q =>
      have hq2 := hq
      unfold stp at hq
      by_cases h0 : c i < 0
      · rw [if_pos h0] at hq
        by_cases h7 : c i = -7
        · have m7 : mpF (c i) = -9 := by rw [h7]; decide
          rw [if_pos h7] at hq
          rw [m7, if_pos (by decide), if_pos rfl]
          cases st with
          | nil => cases hq
          | cons x q0 =>
            have eq : q = (1 - x) :: q0 := (Option.some.inj hq).symm
            have ex : sI σ 135 q0.length = x := hA.1
            have hl1 : q0.length + 1 ≤ 60 := hl
            have n1 := nx (wI σ 135 q0.length (1 - x)) q (wr _ _) hq2 (by rw [eq]; exact atw q0 _ hA.2) (by rw [eq]; exact hl1)
            rw [eq, List.length_cons] at n1
            rw [List.length_cons, lt_b, rL101_48 L, gd_t nz_s, gd_t (oL135 L), nI_pred, gd_t (inb_n (lL135 L) (by omega) (by decide)), lt_b, ix_n (by omega), ex]
            exact n1
        · rw [if_neg h7] at hq
          by_cases h9 : c i < -9
          · rw [if_pos h9] at hq; cases hq
          · rw [if_neg h9] at hq
            have mn := mp_neg h0 h9
            rw [if_pos mn.1, if_neg (fun w => h7 (mn.2.mp w))]
            cases st with
            | nil => cases hq
            | cons y q1 =>
              cases q1 with
              | nil => cases hq
              | cons x q0 =>
                have hq' : (if (c i = -8 ∨ c i = -9) ∧ ¬ ((x = 0 ∨ x = 1) ∧ (y = 0 ∨ y = 1)) then none else some (jnF (c i) x y :: q0)) = some q := hq
                by_cases hb : (c i = -8 ∨ c i = -9) ∧ ¬ ((x = 0 ∨ x = 1) ∧ (y = 0 ∨ y = 1))
                · rw [if_pos hb] at hq'; cases hq'
                · rw [if_neg hb] at hq'
                  have eq : q = jnF (c i) x y :: q0 := (Option.some.inj hq').symm
                  have ey : sI σ 135 (q0.length + 1) = y := hA.1
                  have ex : sI σ 135 q0.length = x := hA.2.1
                  have hl1 : q0.length + 1 + 1 ≤ 60 := hl
                  have n1 := nx (wI σ 135 q0.length (jnF (c i) x y)) q (wr _ _) hq2 (by rw [eq]; exact atw q0 _ hA.2.2) (by rw [eq, List.length_cons]; omega)
                  rw [eq, List.length_cons] at n1
                  rw [List.length_cons, List.length_cons, pk_m1, lt_b, lt_b, rL101_48 L, gd_t nz_s, gd_t (oL135 L), nI_pred, gd_t (inb_n (lL135 L) (by omega) (by decide)), gd_t (inb_n (lL135 L) (by omega) (by decide)), ix_n (k := q0.length) (by omega), ix_n (k := q0.length + 1) (by omega), ex, ey, bd_s (joinM h9 h0 h7 hb), lt_b]
                  exact n1
      · rw [if_neg h0] at hq
        rw [mp_pos h0, if_neg h0]
        by_cases h6 : 60 ≤ st.length
        · rw [if_pos h6] at hq; cases hq
        · rw [if_neg h6] at hq
          have push : ∀ v, q = v :: st → ∃ τ, f12_works_p80 (f12_works_p19 f) σ 101 (nI T) (nI st.length) (nI (20 * T + r)) (nI i) v (nI st.length) 135 = some (sI τ 135 0, τ) ∧ Fr (fun x _ => x = 135) σ τ ∧ At (sI τ 135) s := fun v eq => by
            have n1 := nx (wI σ 135 st.length v) q (wr _ _) hq2 (by rw [eq]; exact atw st _ hA) (by rw [eq, List.length_cons]; omega)
            rw [eq, List.length_cons] at n1
            unfold f12_works_p80
            rw [gd_t (oL135 L), gd_t (inb_n (lL135 L) (by omega) (by decide)), lt_b, lt_b, ix_n (by omega), nI_1]
            exact n1
          rw [lt_b, rL101_48 L, gd_t nz_s]
          by_cases h1 : c i < 10000
          · rw [if_pos h1] at hq ⊢
            exact push _ (Option.some.inj hq).symm
          · rw [if_neg h1] at hq ⊢
            by_cases h2 : c i < 10015
            · rw [if_pos h2] at hq
              obtain ⟨k, hk, ek⟩ := inN (lim := 10015) rfl (by decide) (⟨Int32.not_lt.mp h0, h2⟩ : 0 ≤ c i ∧ c i < 10015)
              have hk2 : 10000 ≤ k := by
                have := h1
                rw [ek] at this
                exact Nat.not_lt.mp (fun w => this (nI_lt (b := 10000) w (by decide)))
              have e0 : c i - 10000 = nI (k - 10000) := by
                rw [ek]
                have : nI k = nI (k - 10000) + nI 10000 := by rw [nI_add]; congr 1; omega
                rw [this]
                show nI (k - 10000) + 10000 - 10000 = _
                rw [Int32.add_sub_cancel]
              rw [e0, ix_n (by omega)] at hq
              rw [lt_b, rL101_47 L, gd_t nz_s, gd_t (oL134 L), e0, gd_t (inb_n (lL134 L) (by omega) (by decide)), ix_n (by omega), hev _ (by omega)]
              exact push _ (Option.some.inj hq).symm
            · rw [if_neg h2] at hq; cases hq
