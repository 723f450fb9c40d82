/-- a row holds a stack, bottom at 0 -/
def At (f : Nat → Int32) : List Int32 → Prop
  | [] => True
  | x :: s => f s.length = x ∧ At f s
theorem At_cg {f g : Nat → Int32} : ∀ s : List Int32, (∀ k, k < s.length → g k = f k) → At f s → At g s := by
  intro s
  induction s with
  | nil => intro _ _; trivial
  | cons x s ih => intro h a; exact ⟨(h s.length (by show s.length < s.length + 1; omega)).trans a.1, ih (fun k hk => h k (by show k < s.length + 1; omega)) a.2⟩
theorem named_s {σ : St} (L : Lay σ) {s : Nat} (hs : s < 15) : f4_named σ 35 (nI s) = some (sI σ 58 s, σ) := by
  unfold f4_named
  rw [if_neg (nI_pos (by omega)), gd_t (oL35 L), lt_b, rL35_6 L, gd_t nz_s, gd_t (oL58 L), lL58 L, if_pos (show nI s < Int32.ofNat 15 from nI_lt (b := 15) hs (by decide)), gd_t (inb_n (lL58 L) hs (by decide)), ix_n (by omega)]
theorem workOut_l {a c0 C : Nat} (c : Nat → Int32) (env : Nat → Int32) (hc : c0 ≠ 59) : ∀ (n i fuel : Nat) (σ : St) (st s : List Int32), Lay σ → ob σ a 10 = true → sR σ a 0 = c0 → 0 < c0 → ob σ c0 14 = true → (sK σ c0).2 = C → C < 2147483648 → (∀ k, sI σ c0 k = c k) → (∀ k, k < 15 → sI σ 58 k = env k) → rn c env n i st = some s → At (sI σ 59) st → st.length ≤ 60 → i + n ≤ C → n < fuel →
    ∃ τ, f4_workOut_p40 fuel σ 35 a (nI st.length) (nI (i + n)) (nI i) = some (sI τ 59 0, τ) ∧ Fr (fun x _ => x = 59) σ τ ∧ At (sI τ 59) s := by
  intro n
  induction n with
  | zero =>
    intro i fuel σ st s L o r p oc lc hC hcv hev hr hA hl hi hf
    obtain ⟨f, rfl, -⟩ := suc_of hf
    have e : st = s := Option.some.inj hr
    refine ⟨σ, ?_, Fr_rf, by rw [← e]; exact hA⟩
    rw [f4_workOut_p40, if_neg (nI_nlt (by omega) (by omega)), gd_t (oL35 L), lt_b, rL35_7 L, gd_t nz_s, gd_t (oL59 L), gd_t (inb_0 (lL59 L) (by decide) (by decide)), ix_0]
  | succ n ih =>
    intro i fuel σ st s L o r p oc lc hC hcv hev hr hA hl hi hf
    obtain ⟨f, rfl, hf2⟩ := suc_of hf
    have ein : i + (n + 1) = i + 1 + n := by omega
    rw [ein]
    have nx : ∀ (τ0 : St) (q : List Int32), Fr (fun x _ => x = 59) σ τ0 → stp env (c i) st = some q → At (sI τ0 59) q → q.length ≤ 60 → ∃ τ, f4_workOut_p175 (f4_workOut_p40 f) τ0 35 a (nI q.length) (nI (i + 1 + n)) (nI i) = some (sI τ 59 0, τ) ∧ Fr (fun x _ => x = 59) σ τ ∧ At (sI τ 59) s := by
      intro τ0 q fr hq hAq hlq
      rw [rn_s, hq] at hr
      have oa := ob_spec o
      have obc := ob_spec oc
      have tr : ∀ x k, x ≤ sN σ → x ≠ 59 → sI τ0 x k = sI σ x k := fun x k h1 h2 => Fr_i fr h1 h2
      have a59 : a ≠ 59 := fun e59 => by
        have k59 := kL59 L
        rw [e59, k59] at oa
        exact absurd oa.1 (by decide)
      have er : sR τ0 a 0 = c0 := by rw [(fr.2.2.1 a 0 oa.2.2 a59).2.2]; exact r
      have ob' : ∀ x k, ob σ x k = true → ob τ0 x k = true := fun x k h => by
        obtain ⟨h1, h2, h3⟩ := ob_spec h
        simp only [ob, Bool.and_eq_true, beq_iff_eq, decide_eq_true_eq]
        exact ⟨by rw [fr.1 x h3]; exact h1, h2, Nat.le_trans h3 fr.2.1⟩
      have hN := L.2.2
      obtain ⟨τ, w1, w2, w3⟩ := ih (i + 1) f τ0 q s (Lay_Fr fr L) (ob' a 10 o) er p (ob' c0 14 oc) (by rw [fr.1 c0 obc.2.2]; exact lc) hC (fun k => by rw [tr c0 k obc.2.2 hc]; exact hcv k) (fun k hk => by rw [tr 58 k (by omega) (by decide)]; exact hev k hk) hr hAq hlq (by omega) (by omega)
      refine ⟨τ, ?_, Fr_tr fr w2, w3⟩
      unfold f4_workOut_p175
      rw [lt_b, nI_1]
      exact w1
    have wr : ∀ (k : Nat) (v : Int32), Fr (fun x _ => x = 59) σ (wI σ 59 k v) := fun k v => Fr_wI Fr_rf (Or.inl rfl)
    have atw : ∀ (q : List Int32) (v : Int32), At (sI σ 59) q → At (sI (wI σ 59 q.length v) 59) (v :: q) := fun q v h => ⟨sI_w1 _ _ _ _, At_cg q (fun k hk => sI_wk (by omega)) h⟩
    rw [f4_workOut_p40, if_pos (nI_lt (by omega) (by omega)), gd_t o, lt_b, r, gd_t (nz_t p), gd_t oc, gd_t (inb_n lc (by omega) (by omega)), lt_b, ix_n (by omega), hcv]
    cases hq : stp env (c i) st with
    | none => rw [rn_s, hq] at hr; cases hr
    | some q =>
      have hq2 := hq
      unfold stp at hq
      by_cases h0 : c i < 0
      · rw [if_pos h0] at hq ⊢
        by_cases h7 : c i = -7
        · rw [if_pos h7] at hq ⊢
          cases st with
          | nil => cases hq
          | cons x q0 =>
            have eq : q = (1 - x) :: q0 := (Option.some.inj hq).symm
            have ex : sI σ 59 q0.length = x := hA.1
            have hl1 : q0.length + 1 ≤ 60 := hl
            have n1 := nx (wI σ 59 q0.length (1 - x)) q (wr _ _) hq2 (by rw [eq]; exact atw q0 _ hA.2) (by rw [eq]; exact hl1)
            rw [eq, List.length_cons] at n1
            rw [List.length_cons, if_neg (show ¬ nI (q0.length + 1) < 1 from nI_nlt (b := 1) (by omega) (by omega)), gd_t (oL35 L), lt_b, rL35_7 L, gd_t nz_s, gd_t (oL59 L), nI_pred, gd_t (inb_n (lL59 L) (by omega) (by decide)), lt_b, ix_n (by omega), ex]
            exact n1
        · rw [if_neg h7] at hq ⊢
          by_cases h9 : c i < -9
          · rw [if_pos h9] at hq; cases hq
          · rw [if_neg h9] at hq
            cases st with
            | nil => cases hq
            | cons y q1 =>
              cases q1 with
              | nil => cases hq
              | cons x q0 =>
                have hq' : (if (c i = -8 ∨ c i = -9) ∧ ¬ ((x = 0 ∨ x = 1) ∧ (y = 0 ∨ y = 1)) then none else some (jnF (c i) x y :: q0)) = some q := hq
                by_cases hb : (c i = -8 ∨ c i = -9) ∧ ¬ ((x = 0 ∨ x = 1) ∧ (y = 0 ∨ y = 1))
                · rw [if_pos hb] at hq'; cases hq'
                · rw [if_neg hb] at hq'
                  have eq : q = jnF (c i) x y :: q0 := (Option.some.inj hq').symm
                  have ey : sI σ 59 (q0.length + 1) = y := hA.1
                  have ex : sI σ 59 q0.length = x := hA.2.1
                  have hl1 : q0.length + 1 + 1 ≤ 60 := hl
                  have n1 := nx (wI σ 59 q0.length (jnF (c i) x y)) q (wr _ _) hq2 (by rw [eq]; exact atw q0 _ hA.2.2) (by rw [eq, List.length_cons]; omega)
                  rw [eq, List.length_cons] at n1
                  have e2 : nI (q0.length + 1 + 1) - 2 = nI q0.length := by
                    have : nI (q0.length + 1 + 1) = nI q0.length + nI 2 := by rw [nI_add]
                    rw [this]
                    show nI q0.length + 2 - 2 = _
                    rw [Int32.add_sub_cancel]
                  rw [List.length_cons, List.length_cons, if_neg (show ¬ nI (q0.length + 1 + 1) < 2 from nI_nlt (b := 2) (by omega) (by omega)), gd_t (oL35 L), lt_b, rL35_7 L, gd_t nz_s, gd_t (oL59 L), e2, nI_pred, pk_m1, gd_t (inb_n (lL59 L) (by omega) (by decide)), gd_t (inb_n (lL59 L) (by omega) (by decide)), ix_n (k := q0.length) (by omega), ix_n (k := q0.length + 1) (by omega), ex, ey, bd_s joinC, lt_b, lt_b]
                  exact n1
      · rw [if_neg h0] at hq ⊢
        by_cases h6 : 60 ≤ st.length
        · rw [if_pos h6] at hq; cases hq
        · rw [if_neg h6] at hq
          have push : ∀ v, q = v :: st → ∃ τ, f4_workOut_p98 (f4_workOut_p40 f) σ 35 a (nI st.length) (nI (i + 1 + n)) (nI i) v (nI st.length) 59 = some (sI τ 59 0, τ) ∧ Fr (fun x _ => x = 59) σ τ ∧ At (sI τ 59) s := fun v eq => by
            have n1 := nx (wI σ 59 st.length v) q (wr _ _) hq2 (by rw [eq]; exact atw st _ hA) (by rw [eq, List.length_cons]; omega)
            rw [eq, List.length_cons] at n1
            unfold f4_workOut_p98
            rw [gd_t (oL59 L), gd_t (inb_n (lL59 L) (by omega) (by decide)), lt_b, lt_b, ix_n (by omega), nI_1]
            exact n1
          rw [gd_t (oL35 L), lt_b, rL35_7 L, gd_t nz_s, gd_t (oL59 L), lL59 L, if_pos (show nI st.length < Int32.ofNat 64 from nI_lt (b := 64) (by omega) (by decide))]
          by_cases h1 : c i < 10000
          · rw [if_pos h1] at hq ⊢
            exact push _ (Option.some.inj hq).symm
          · rw [if_neg h1] at hq ⊢
            by_cases h2 : c i < 10015
            · rw [if_pos h2] at hq
              obtain ⟨k, hk, ek⟩ := inN (lim := 10015) rfl (by decide) (⟨Int32.not_lt.mp h0, h2⟩ : 0 ≤ c i ∧ c i < 10015)
              have hk2 : 10000 ≤ k := by
                have := h1
                rw [ek] at this
                exact Nat.not_lt.mp (fun w => this (nI_lt (b := 10000) w (by decide)))
              have e0 : c i - 10000 = nI (k - 10000) := by
                rw [ek]
                have : nI k = nI (k - 10000) + nI 10000 := by rw [nI_add]; congr 1; omega
                rw [this]
                show nI (k - 10000) + 10000 - 10000 = _
                rw [Int32.add_sub_cancel]
              rw [e0, ix_n (by omega)] at hq
              rw [e0, bd_s (named_s L (by omega)), hev _ (by omega)]
              exact push _ (Option.some.inj hq).symm
            · rw [if_neg h2] at hq; cases hq
