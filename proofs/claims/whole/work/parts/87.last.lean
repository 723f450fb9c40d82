/-! THE LAST RULE THAT HOLDS, in the reference -/
def Wla (x _ : Nat) : Prop := x = 134 ∨ x = 135
def isKd (k : Int32) : Prop := k = 257 ∨ k = 258 ∨ k = 259 ∨ k = 261
theorem km_eq {k o : Int32} (hk : k = 256 ∨ k = 257 ∨ k = 258 ∨ k = 259 ∨ k = 261) (ho : isKd o) : kmF k = kmF o ↔ k = o := by
  rcases hk with rfl | rfl | rfl | rfl | rfl <;> rcases ho with rfl | rfl | rfl | rfl <;> decide
theorem km_0 {k : Int32} (hk : k = 256 ∨ k = 257 ∨ k = 258 ∨ k = 259 ∨ k = 261) : kmF k = 0 ↔ k = 256 := by
  rcases hk with rfl | rfl | rfl | rfl | rfl <;> decide
theorem last_l {a C R T : Nat} {one oth : Int32} (e0 : Nat → Int32) {δ : St} (c : TxC δ a C R) (ok : TxOk δ a C R) (h1 : isKd one) (h2 : isKd oth) : ∀ (j i fuel : Nat) (σ : St), Lay σ → i + j = R → j < fuel → TxM δ σ a C R T → (∀ k, k < 9 + ltF δ a i → sI σ 134 k = (lhF δ a one oth e0 i).1 k) →
    ∃ τ, f12_last_p9 fuel σ 101 (nI T) (kmF one) (kmF oth) (lhF δ a one oth e0 i).2 (nI (ltF δ a i)) (nI i) = some ((lhF δ a one oth e0 R).2, τ) ∧ Fr Wla σ τ := by
  have hR := c.1.2.2.2.1
  intro j
  induction j with
  | zero =>
    intro i fuel σ L hi hf M he
    obtain ⟨f, rfl, -⟩ := suc_of hf
    obtain ⟨hT, m1, m2, m3⟩ := M
    have : i = R := by omega
    subst this
    exact ⟨σ, by rw [f12_last_p9, if_neg (nI_m1 (by omega)), gd_t (oL101 L), lt_b, rL101_25 L, gd_t nz_s, gd_t (oL122 L), gd_t (inb_n (lL122 L) (by omega) (by decide)), ix_n (by omega), m1, if_neg (nI_nlt (by omega) (by omega))], Fr_rf⟩
  | succ j ih =>
    intro i fuel σ L hi hf M he
    obtain ⟨f, rfl, hf2⟩ := suc_of hf
    have hri : i < R := by omega
    have hN := L.2.2
    obtain ⟨τ0, q1, q2⟩ := works_s L c ok M hri
    have M0 : TxM δ τ0 a C R T := TxM_cg (fun _ _ _ => rfl) (fun x k hx => Fr_i q2 (by omega) (by omega)) M
    obtain ⟨hT, m1, m2, m3⟩ := M
    obtain ⟨kk, -⟩ := m3 i hri
    have lt6 : ltF δ a R ≤ 6 := ok.1
    have ltR : ltF δ a (i + 1) ≤ ltF δ a R := ltF_le (by omega)
    have ltR0 : ltF δ a i ≤ ltF δ a R := ltF_le (by omega)
    have kd := (ok.2 i hri).2.2.2.1
    have sg := (ok.2 i hri).2.2.2.2.1
    have evs := (Sg_ev sg (sI σ 134)).2.2 (lhF δ a one oth e0 i).1 he
    have evb := (Sg_ev sg (sI σ 134)).2.1
    rw [evs] at q1 evb
    have L0 := Lay_Fr q2 L
    have fr0 : Fr Wla σ τ0 := Fr_mo q2 (fun x k w => Or.inr w)
    have k134 : ∀ k, sI τ0 134 k = sI σ 134 k := fun k => Fr_i q2 (by omega) (by decide)
    have stp : lhF δ a one oth e0 (i + 1) = if sI δ (a + 2) i = 256 then (ud (lhF δ a one oth e0 i).1 (9 + ltF δ a i) (evF (sI δ (a + 1)) (lhF δ a one oth e0 i).1 (stF δ a i) (enF δ a i)), (lhF δ a one oth e0 i).2)
      else if (sI δ (a + 2) i = one ∨ sI δ (a + 2) i = oth) ∧ evF (sI δ (a + 1)) (lhF δ a one oth e0 i).1 (stF δ a i) (enF δ a i) ≠ 0 then ((lhF δ a one oth e0 i).1, nI i) else lhF δ a one oth e0 i := rfl
    have e20 : (20 : Int32) * nI T + nI i = nI (20 * T + i) := by
      have : (20 : Int32) * nI T = nI (20 * T) := pk_mul 20 T
      rw [this, nI_add]
    have e9 : (9 : Int32) + nI (ltF δ a i) = nI (9 + ltF δ a i) := nI_add 9 _
    rw [f12_last_p9, if_neg (nI_m1 (by omega)), gd_t (oL101 L), lt_b, rL101_25 L, gd_t nz_s, gd_t (oL122 L), gd_t (inb_n (lL122 L) (by omega) (by decide)), ix_n (by omega), m1, if_pos (nI_lt hri (by omega)), lt_b, rL101_26 L, gd_t nz_s, gd_t (oL123 L), e20, gd_t (inb_n (lL123 L) (by omega) (by decide)), lt_b, ix_n (by omega), kk]
    have ltS : ltF δ a (i + 1) = if sI δ (a + 2) i = 256 then ltF δ a i + 1 else ltF δ a i := rfl
    by_cases g1 : sI δ (a + 2) i = 256
    · rw [if_pos g1] at stp ltS
      rw [if_pos ((km_0 kd).mpr g1), lt_b, rL101_47 L, gd_t nz_s, bd_s q1, gd_t (oL134 L0), e9, gd_t (inb_n (lL134 L0) (by omega) (by decide)), lt_b, lt_b, nI_1, ix_n (by omega)]
      have := ih (i + 1) f (wI τ0 134 (9 + ltF δ a i) (evF (sI δ (a + 1)) (lhF δ a one oth e0 i).1 (stF δ a i) (enF δ a i))) (Lay_wI L0) (by omega) (by omega) (TxM_cg (fun _ _ _ => rfl) (fun x k hx => sI_wo (by omega) k) M0) (fun k hk => by
        rw [sI_ws, stp]
        show _ = ud _ _ _ k
        unfold ud
        by_cases w : k = 9 + ltF δ a i
        · rw [if_pos w, if_pos w]
        · rw [if_neg w, if_neg w, k134]; exact he k (by omega))
      rw [show (lhF δ a one oth e0 (i + 1)).2 = (lhF δ a one oth e0 i).2 by rw [stp], ltS] at this
      obtain ⟨τ, w1, w2⟩ := this
      refine ⟨τ, ?_, Fr_tr (Fr_wI fr0 (Or.inl (Or.inl rfl))) w2⟩
      unfold f12_last_p94
      rw [lt_b, nI_1]
      exact w1
    · rw [if_neg g1] at stp ltS
      have b1 : evF (sI δ (a + 1)) (lhF δ a one oth e0 i).1 (stF δ a i) (enF δ a i) = 0 ∨ evF (sI δ (a + 1)) (lhF δ a one oth e0 i).1 (stF δ a i) (enF δ a i) = 1 := evb (decide_eq_true g1)
      rw [if_neg (fun w => g1 ((km_0 kd).mp w))]
      have e79 : sI δ (a + 2) i = one ∨ sI δ (a + 2) i = oth → ∃ τ, f12_last_p79 (f12_last_p9 f) σ 101 (nI T) (kmF one) (kmF oth) (lhF δ a one oth e0 i).2 (nI (ltF δ a i)) (nI i) = some ((lhF δ a one oth e0 R).2, τ) ∧ Fr Wla σ τ := fun hk => by
        unfold f12_last_p79
        rw [gd_t (oL101 L), bd_s q1]
        have n0 := ih (i + 1) f τ0 L0 (by omega) (by omega) M0
        rw [ltS] at n0
        rcases b1 with b1 | b1
        · rw [if_neg (fun w => w.2 b1)] at stp
          rw [if_neg (by rw [b1]; decide)]
          unfold f12_last_p94
          rw [lt_b, nI_1]
          rw [stp] at n0
          obtain ⟨τ, w1, w2⟩ := n0 (fun k hk => by rw [k134]; exact he k hk)
          exact ⟨τ, w1, Fr_tr fr0 w2⟩
        · rw [if_pos ⟨hk, by rw [b1]; decide⟩] at stp
          rw [if_pos b1]
          unfold f12_last_p94
          rw [lt_b, nI_1]
          rw [stp] at n0
          obtain ⟨τ, w1, w2⟩ := n0 (fun k hk => by rw [k134]; exact he k hk)
          exact ⟨τ, w1, Fr_tr fr0 w2⟩
      by_cases h3 : sI δ (a + 2) i = one
      · rw [if_pos ((km_eq kd h1).mpr h3)]; exact e79 (Or.inl h3)
      · rw [if_neg (fun w => h3 ((km_eq kd h1).mp w))]
        by_cases h4 : sI δ (a + 2) i = oth
        · rw [if_pos ((km_eq kd h2).mpr h4)]; exact e79 (Or.inr h4)
        · rw [if_neg (fun w => h4 ((km_eq kd h2).mp w))]
          rw [if_neg (fun w => by rcases w.1 with w | w; exact h3 w; exact h4 w)] at stp
          have n0 := ih (i + 1) f σ L (by omega) (by omega) ⟨hT, m1, m2, m3⟩
          rw [ltS] at n0
          unfold f12_last_p94
          rw [lt_b, nI_1]
          rw [stp] at n0
          exact n0 he
theorem last_s {δ σ : St} (L : Lay σ) {a C R T : Nat} (c : TxC δ a C R) (ok : TxOk δ a C R) (M : TxM δ σ a C R T) {one oth : Int32} (h1 : isKd one) (h2 : isKd oth) (e0 : Nat → Int32) (he : ∀ k, k < 9 → sI σ 134 k = e0 k) : ∃ τ, f12_last σ 101 (nI T) (kmF one) (kmF oth) = some ((lhF δ a one oth e0 R).2, τ) ∧ Fr Wla σ τ := by
  have hR := c.1.2.2.2.1
  unfold f12_last
  exact last_l e0 c ok h1 h2 R 0 FU σ L (by omega) (by unfold FU; omega) M (fun k hk => he k hk)
theorem last_n {σ : St} {o1 o2 : Int32} : f12_last σ 101 (-1) o1 o2 = some (-1, σ) := by
  unfold f12_last FU
  rw [f12_last_p9, if_pos rfl]
