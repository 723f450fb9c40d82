/-! THE REFERENCE PLANS: ways asked, mills lifted, berths asked, all tried, all put back -/
def Wqm (x k : Nat) : Prop := x = 101 ∧ (k = 0 ∨ k = 61 ∨ k = 62 ∨ 68 ≤ k ∧ k ≤ 73) ∨ x = 109 ∨ x = 134 ∨ x = 135 ∨ x = 144 ∨ x = 145 ∨ x = 147 ∨ x = 148
theorem la_pm {x k : Nat} (h : Wla x k) : Wqm x k := by unfold Wla at h; unfold Wqm; omega
theorem tr_pm {x k : Nat} (h : Wtr x k) : Wqm x k := by unfold Wtr at h; unfold Wqm; omega
theorem RR_pm {W : Nat → Nat → Prop} {δ σ τ : St} {nm p q : Nat} {n : Nat → Nat} (h : Fr W σ τ) (hW : ∀ x k, W x k → Wqm x k) (L : Lay σ) (R : RR δ σ nm p q n) : RR δ τ nm p q n := RR_Fr h L (fun x k q w => by
  have := hW x k w
  unfold Wqm at this
  omega) R
/-- ways -/
def Wpw (x _ : Nat) : Prop := x = 134 ∨ x = 135 ∨ x = 148
theorem waysM_l {δ : St} {nm p q to e : Nat} {tx : Nat → Nat} {D : Int32} (t11 : to ≤ 11) : ∀ (j s fuel : Nat) (ρ : St), s + j = to + 1 → j < fuel → Lay ρ → RR δ ρ nm p q tx → sI ρ 101 14 = nI e →
    ∃ ρ', f12_plan_p108 fuel ρ 101 D (nI to) (nI s) = f12_plan_p142 FU ρ' 101 D 0 ∧ Fr Wpw ρ ρ' ∧ (∀ k, k < s → sI ρ' 148 k = sI ρ 148 k) ∧ ∀ k, s ≤ k → k ≤ to → sI ρ' 148 k = wayF δ tx p k D (nI e) := by
  intro j
  induction j with
  | zero =>
    intro s fuel ρ hs hf M R h14
    obtain ⟨f, rfl, -⟩ := suc_of hf
    refine ⟨ρ, ?_, Fr_rf, fun _ _ => rfl, fun k h1 h2 => absurd h2 (by omega)⟩
    rw [f12_plan_p108, if_neg (nI_gt (by omega) (by omega))]
  | succ j ih =>
    intro s fuel ρ hs hf M R h14
    obtain ⟨f, rfl, -⟩ := suc_of hf
    have hN := M.2.2
    obtain ⟨ρ1, a1, a2⟩ := wayOf_s (s0 := s) M R D (nI e)
    have M1 := Lay_Fr a2 M
    have F2 : Fr Wpw ρ (wI ρ1 148 s (wayF δ tx p s D (nI e))) := Fr_wI (Fr_mo a2 (fun x k w => by unfold Wla at w; unfold Wpw; omega)) (Or.inl (by unfold Wpw; omega))
    have k1 : ∀ x k, x ≤ 153 → ¬ Wla x k → sI ρ1 x k = sI ρ x k := fun x k h1 h2 => Fr_i a2 (by omega) h2
    obtain ⟨ρ', b1, b2, b3, b4⟩ := ih (s + 1) f _ (by omega) (by omega) (Lay_wI M1 : Lay (wI ρ1 148 s (wayF δ tx p s D (nI e)))) (RR_pm F2 (fun x k w => by unfold Wpw at w; unfold Wqm; omega) M R) (by rw [sI_wo (by decide), k1 _ _ (by omega) (by unfold Wla; omega)]; exact h14)
    refine ⟨ρ', ?_, Fr_tr F2 b2, fun k hk => by rw [b3 k (by omega), sI_wk (by omega), k1 _ _ (by omega) (by unfold Wla; omega)], fun k h1 h2 => ?_⟩
    · rw [f12_plan_p108, if_pos (nI_le (by omega) (by omega)), gd_t (oL101 M), lt_b, rL101_67 M, gd_t nz_s, h14, bd_s a1, gd_t (oL148 M1), gd_t (inb_n (lL148 M1) (by omega) (by decide)), ix_n (by omega), lt_b, nI_1, lt_b]
      exact b1
    · by_cases c : k = s
      · rw [c, b3 s (by omega), sI_w1]
      · exact b4 k (by omega) h2
/-- berths of a mill -/
def Wpb (x _ : Nat) : Prop := x = 134 ∨ x = 135 ∨ x = 147
def myF (δ : St) (tx : Nat → Nat) (p : Nat) (h : Int32) (D : Int32) (k : Int32) (m b : Nat) : Bool := decide (¬ dpF (sI δ 3 b) h < sI δ (29 + m) 0 ∧ stdF δ tx p m b D k &&& 3 = 0)
theorem berthsM_l {δ : St} {nm p q e m : Nat} {tx : Nat → Nat} {h D : Int32} (K : St → Nat → Int32 → Int32 → Option (Int32 × St)) (hh : Hh h) (hm : m < nm) (n6 : nm ≤ 6) : ∀ (j b fuel : Nat) (ρ : St), b + j = 72 → j < fuel → Lay ρ → RR δ ρ nm p q tx → sI ρ 101 14 = nI e → sI ρ 101 69 = h →
    ∃ ρ', f12_plan_p188 K fuel ρ 101 D (nI m) (nI b) = f12_plan_p255 K ρ' 101 D (nI m) ∧ Fr Wpb ρ ρ' ∧ (∀ k, k < 72 * m + b ∨ 72 * m + 72 ≤ k → sI ρ' 147 k = sI ρ 147 k) ∧ ∀ c, b ≤ c → c < 72 → sI ρ' 147 (72 * m + c) = if myF δ tx p h D (nI e) m c = true then 1 else 0 := by
  intro j
  induction j with
  | zero =>
    intro b fuel ρ hb hf M R h14 h69
    obtain ⟨f, rfl, -⟩ := suc_of hf
    have e72 : b = 72 := by omega
    subst e72
    refine ⟨ρ, ?_, Fr_rf, fun _ _ => rfl, fun c h1 h2 => absurd h2 (by omega)⟩
    rw [f12_plan_p188, if_neg (by decide)]
  | succ j ih =>
    intro b fuel ρ hb hf M R h14 h69
    obtain ⟨f, rfl, -⟩ := suc_of hf
    have b72 : b < 72 := by omega
    have e72 : (72 : Int32) * nI m + nI b = nI (72 * m + b) := by
      have : (72 : Int32) * nI m = nI (72 * m) := pk_mul 72 m
      rw [this, nI_add]
    have put : ∀ (ρ1 : St) (v : Int32), Fr Wla ρ ρ1 → (v = 0 ∨ v = 1) → (v = if myF δ tx p h D (nI e) m b = true then 1 else 0) → ∃ ρ', f12_plan_p248 K (f12_plan_p188 K f) ρ1 101 D (nI m) (nI b) v (nI (72 * m + b)) 147 = f12_plan_p255 K ρ' 101 D (nI m) ∧ Fr Wpb ρ ρ' ∧ (∀ k, k < 72 * m + b ∨ 72 * m + 72 ≤ k → sI ρ' 147 k = sI ρ 147 k) ∧ ∀ c, b ≤ c → c < 72 → sI ρ' 147 (72 * m + c) = if myF δ tx p h D (nI e) m c = true then 1 else 0 := fun ρ1 v F hv ev => by
      have hN := M.2.2
      have M1 := Lay_Fr F M
      have k1 : ∀ x k, x ≤ 153 → ¬ Wla x k → sI ρ1 x k = sI ρ x k := fun x k h1 h2 => Fr_i F (by omega) h2
      have F2 : Fr Wpb ρ (wI ρ1 147 (72 * m + b) v) := Fr_wI (Fr_mo F (fun x k w => by unfold Wla at w; unfold Wpb; omega)) (Or.inl (by unfold Wpb; omega))
      obtain ⟨ρ', b1, b2, b3, b4⟩ := ih (b + 1) f _ (by omega) (by omega) (Lay_wI M1 : Lay (wI ρ1 147 (72 * m + b) v)) (RR_pm F2 (fun x k w => by unfold Wpb at w; unfold Wqm; omega) M R) (by rw [sI_wo (by decide), k1 _ _ (by omega) (by unfold Wla; omega)]; exact h14) (by rw [sI_wo (by decide), k1 _ _ (by omega) (by unfold Wla; omega)]; exact h69)
      refine ⟨ρ', ?_, Fr_tr F2 b2, fun k hk => by rw [b3 k (by omega), sI_wk (by omega), k1 _ _ (by omega) (by unfold Wla; omega)], fun c h1 h2 => ?_⟩
      · unfold f12_plan_p248
        rw [gd_t (oL147 M1), gd_t (inb_n (lL147 M1) (by omega) (by decide)), ix_n (by omega), nar_b hv, lt_b, lt_b, nI_1]
        exact b1
      · by_cases ec : c = b
        · rw [ec, b3 _ (by omega), sI_w1]; exact ev
        · exact b4 c (by omega) h2
    rw [f12_plan_p188, if_pos (show nI b < 72 from nI_lt (b := 72) b72 (by decide)), gd_t (oL101 M), lt_b, rL101_66 M, gd_t nz_s, h69, bd_s (depthM_d M R.1.1 R.2.1 b72 hh), lt_b, rL101_6 M, gd_t nz_s, gd_t (oL106 M), gd_t (inb_n (lL106 M) (by omega) (by decide)), ix_n (by omega), (R.2.2.1.2.2 m hm).1, e72]
    unfold f12_plan_p247
    by_cases c1 : dpF (sI δ 3 b) h < sI δ (29 + m) 0
    · rw [if_pos c1]
      exact put ρ 0 Fr_rf (Or.inl rfl) (by rw [if_neg (fun w => (of_decide_eq_true w).1 c1)])
    · obtain ⟨ρ1, a1, a2⟩ := isBarred_s M R hm b72 D (nI e)
      rw [if_neg c1, h14, bd_s a1]
      by_cases c2 : stdF δ tx p m b D (nI e) &&& 3 = 0
      · rw [if_pos c2, if_pos rfl]
        exact put ρ1 1 a2 (Or.inr rfl) (by rw [if_pos (show myF δ tx p h D (nI e) m b = true from decide_eq_true ⟨c1, c2⟩)])
      · rw [if_neg c2, if_neg (by decide)]
        exact put ρ1 0 a2 (Or.inl rfl) (by rw [if_neg (fun w => c2 (of_decide_eq_true w).2)])
/-- mills -/
def Wpl (x _ : Nat) : Prop := x = 109 ∨ x = 134 ∨ x = 135 ∨ x = 145 ∨ x = 147
theorem liftM_l {δ : St} {nm p q e : Nat} {tx : Nat → Nat} {B h D : Int32} {f0 f : Nat → Int32} (hh : Hh h) (n6 : nm ≤ 6) (hf0 : ∀ m, m < nm → f m = if bitP B m = true then -1 else f0 m) : ∀ (j m fuel : Nat) (ρ : St), m + j = nm → j < fuel → Lay ρ → RR δ ρ nm p q tx → sI ρ 101 14 = nI e → sI ρ 101 69 = h → sI ρ 101 62 = B → (∀ k, m ≤ k → k < nm → sI ρ 109 k = f0 k) →
    ∃ ρ', f12_plan_p142 fuel ρ 101 D (nI m) = (lt (wI ρ' 101 73 (-1)) fun t87 => bd (f12_tries 10 t87 101 0) fun _ t90 => f12_plan_p274 FU t90 101 0) ∧ Fr Wpl ρ ρ' ∧ (∀ k, k < m → sI ρ' 109 k = sI ρ 109 k ∧ sI ρ' 145 k = sI ρ 145 k) ∧ (∀ k, k < 72 * m → sI ρ' 147 k = sI ρ 147 k) ∧
      (∀ k, m ≤ k → k < nm → sI ρ' 109 k = f k ∧ sI ρ' 145 k = f0 k) ∧ ∀ k, m ≤ k → k < nm → bitP B k = true → ∀ b, b < 72 → sI ρ' 147 (72 * k + b) = if myF δ tx p h D (nI e) k b = true then 1 else 0 := by
  intro j
  induction j with
  | zero =>
    intro m fuel ρ hm hf M R h14 h69 h62 hl
    obtain ⟨g, rfl, -⟩ := suc_of hf
    refine ⟨ρ, ?_, Fr_rf, fun _ _ => ⟨rfl, rfl⟩, fun _ _ => rfl, fun k h1 h2 => absurd h2 (by omega), fun k h1 h2 => absurd h2 (by omega)⟩
    rw [f12_plan_p142, gd_t (oL101 M), R.2.2.1.1, if_neg (nI_nlt (by omega) (by omega))]
  | succ j ih =>
    intro m fuel ρ hm hf M R h14 h69 h62 hl
    obtain ⟨g, rfl, -⟩ := suc_of hf
    have hN := M.2.2
    have M1 : Lay (wI ρ 145 m (sI ρ 109 m)) := Lay_wI M
    have F1 : Fr Wpl ρ (wI ρ 145 m (sI ρ 109 m)) := Fr_wI Fr_rf (Or.inl (by unfold Wpl; omega))
    have head : f12_plan_p142 (g + 1) ρ 101 D (nI m) = if bitP B m = true then f12_plan_p188 (f12_plan_p142 g) FU (wI (wI ρ 145 m (sI ρ 109 m)) 109 m (-1)) 101 D (nI m) 0 else f12_plan_p255 (f12_plan_p142 g) (wI ρ 145 m (sI ρ 109 m)) 101 D (nI m) := by
      rw [f12_plan_p142, gd_t (oL101 M), R.2.2.1.1, if_pos (nI_lt (by omega) (by omega)), lt_b, rL101_64 M, gd_t nz_s, lt_b, rL101_9 M, gd_t nz_s, gd_t (oL109 M), gd_t (inb_n (lL109 M) (by omega) (by decide)), gd_t (oL145 M), gd_t (inb_n (lL145 M) (by omega) (by decide)), ix_n (by omega), lt_b, bd_s (isIn_s (B := B) M1 (by rw [sI_wo (by decide)]; exact h62) m)]
      by_cases c : bitP B m = true
      · rw [if_pos c, if_pos c, if_neg (by decide), lt_b, rL101_9 M1, gd_t nz_s, gd_t (oL109 M1), gd_t (inb_n (lL109 M1) (by omega) (by decide)), lt_b]
      · rw [if_neg c, if_neg c, if_pos rfl]
    -- behind this mill
    have next : ∀ ρ1, Fr Wpl ρ ρ1 → (∀ k, k ≠ m → sI ρ1 109 k = sI ρ 109 k ∧ sI ρ1 145 k = sI ρ 145 k) → sI ρ1 109 m = f m → sI ρ1 145 m = f0 m → (∀ k, k < 72 * m → sI ρ1 147 k = sI ρ 147 k) → (bitP B m = true → ∀ b, b < 72 → sI ρ1 147 (72 * m + b) = if myF δ tx p h D (nI e) m b = true then 1 else 0) →
        ∃ ρ', f12_plan_p255 (f12_plan_p142 g) ρ1 101 D (nI m) = (lt (wI ρ' 101 73 (-1)) fun t87 => bd (f12_tries 10 t87 101 0) fun _ t90 => f12_plan_p274 FU t90 101 0) ∧ Fr Wpl ρ ρ' ∧ (∀ k, k < m → sI ρ' 109 k = sI ρ 109 k ∧ sI ρ' 145 k = sI ρ 145 k) ∧ (∀ k, k < 72 * m → sI ρ' 147 k = sI ρ 147 k) ∧
          (∀ k, m ≤ k → k < nm → sI ρ' 109 k = f k ∧ sI ρ' 145 k = f0 k) ∧ ∀ k, m ≤ k → k < nm → bitP B k = true → ∀ b, b < 72 → sI ρ' 147 (72 * k + b) = if myF δ tx p h D (nI e) k b = true then 1 else 0 := fun ρ1 F ho h1 h2 h3 h4 => by
      have Ma := Lay_Fr F M
      have ka : ∀ x k, x ≤ 153 → ¬ Wpl x k → sI ρ1 x k = sI ρ x k := fun x k h1 h2 => Fr_i F (by omega) h2
      obtain ⟨ρ', b1, b2, b3, b4, b5, b6⟩ := ih (m + 1) g ρ1 (by omega) (by omega) Ma (RR_pm F (fun x k w => by unfold Wpl at w; unfold Wqm; omega) M R) (by rw [ka _ _ (by omega) (by unfold Wpl; omega)]; exact h14) (by rw [ka _ _ (by omega) (by unfold Wpl; omega)]; exact h69) (by rw [ka _ _ (by omega) (by unfold Wpl; omega)]; exact h62) (fun k g1 g2 => by rw [(ho k (by omega)).1]; exact hl k (by omega) g2)
      refine ⟨ρ', ?_, Fr_tr F b2, fun k hk => ⟨by rw [(b3 k (by omega)).1, (ho k (by omega)).1], by rw [(b3 k (by omega)).2, (ho k (by omega)).2]⟩, fun k hk => by rw [b4 k (by omega), h3 k hk], fun k g1 g2 => ?_, fun k g1 g2 g3 b hb => ?_⟩
      · unfold f12_plan_p255
        rw [lt_b, nI_1]
        exact b1
      · by_cases c : k = m
        · rw [c, (b3 m (by omega)).1, (b3 m (by omega)).2]; exact ⟨h1, h2⟩
        · exact b5 k (by omega) g2
      · by_cases c : k = m
        · rw [c, b4 _ (by omega)]; rw [c] at g3; exact h4 g3 b hb
        · exact b6 k (by omega) g2 g3 b hb
    have lm := hl m (Nat.le_refl _) (by omega)
    rw [head]
    by_cases c : bitP B m = true
    · rw [if_pos c]
      have F2 : Fr Wpl ρ (wI (wI ρ 145 m (sI ρ 109 m)) 109 m (-1)) := Fr_wI F1 (Or.inl (by unfold Wpl; omega))
      obtain ⟨ρ1, a1, a2, a3, a4⟩ := berthsM_l (e := e) (D := D) (f12_plan_p142 g) hh (show m < nm by omega) n6 72 0 FU _ (by omega) (by unfold FU; omega) (Lay_wI M1 : Lay (wI (wI ρ 145 m (sI ρ 109 m)) 109 m (-1))) (RR_pm F2 (fun x k w => by unfold Wpl at w; unfold Wqm; omega) M R) (by rw [sI_wo (by decide), sI_wo (by decide)]; exact h14) (by rw [sI_wo (by decide), sI_wo (by decide)]; exact h69)
      have a1' : f12_plan_p188 (f12_plan_p142 g) FU (wI (wI ρ 145 m (sI ρ 109 m)) 109 m (-1)) 101 D (nI m) 0 = f12_plan_p255 (f12_plan_p142 g) ρ1 101 D (nI m) := a1
      rw [a1']
      have kb : ∀ x k, x ≤ 153 → ¬ Wpb x k → sI ρ1 x k = sI (wI (wI ρ 145 m (sI ρ 109 m)) 109 m (-1)) x k := fun x k h1 h2 => Fr_i a2 (show x ≤ sN ρ by omega) h2
      refine next ρ1 (Fr_tr F2 (Fr_mo a2 (fun x k w => by unfold Wpb at w; unfold Wpl; omega))) (fun k hk => ⟨?_, ?_⟩) ?_ ?_ (fun k hk => ?_) (fun _ b hb => a4 b (by omega) hb)
      · rw [kb _ _ (by omega) (by unfold Wpb; omega), sI_wk hk, sI_wo (by decide)]
      · rw [kb _ _ (by omega) (by unfold Wpb; omega), sI_wo (by decide), sI_wk hk]
      · rw [kb _ _ (by omega) (by unfold Wpb; omega), sI_w1, hf0 m (by omega), if_pos c]
      · rw [kb _ _ (by omega) (by unfold Wpb; omega), sI_wo (by decide), sI_w1, lm]
      · rw [a3 k (by omega), sI_wo (by decide), sI_wo (by decide)]
    · rw [if_neg c]
      exact next _ F1 (fun k hk => ⟨by rw [sI_wo (by decide)], by rw [sI_wk hk]⟩) (by rw [sI_wo (by decide), lm, hf0 m (by omega), if_neg c]) (by rw [sI_w1, lm]) (fun k _ => by rw [sI_wo (by decide)]) (fun w => absurd w c)
/-- all put back -/
theorem backM_l {n : Nat} {f0 : Nat → Int32} (n6 : n ≤ 6) : ∀ (j m fuel : Nat) (ρ : St), m + j = n → j < fuel → Lay ρ → sI ρ 101 5 = nI n → (∀ k, k < n → sI ρ 145 k = f0 k) →
    ∃ ρ', f12_plan_p274 fuel ρ 101 (nI m) = some (sI ρ 101 73, wI ρ' 101 61 (if sI ρ 101 73 = -1 then 0 else 1)) ∧ Lay ρ' ∧ (∀ x k, x ≠ 109 → sI ρ' x k = sI ρ x k) ∧ Fr Wtr ρ ρ' ∧ (∀ k, k < m → sI ρ' 109 k = sI ρ 109 k) ∧ ∀ k, m ≤ k → k < n → sI ρ' 109 k = f0 k := by
  intro j
  induction j with
  | zero =>
    intro m fuel ρ hm hf M h5 h145
    obtain ⟨f, rfl, -⟩ := suc_of hf
    refine ⟨ρ, ?_, M, fun _ _ _ => rfl, Fr_rf, fun _ _ => rfl, fun k h1 h2 => absurd h2 (by omega)⟩
    rw [f12_plan_p274, gd_t (oL101 M), h5, if_neg (nI_nlt (by omega) (by omega))]
    unfold f12_plan_p317
    by_cases c : sI ρ 101 73 = -1
    · rw [if_pos c, if_pos c, gd_t (oL101 M), gd_t (show isB (0 : Int32) = true from rfl), lt_b, gd_t (show ob (wI ρ 101 61 _) 101 12 = true from oL101 M), sI_wk (by decide)]
    · rw [if_neg c, if_neg c, gd_t (oL101 M), gd_t (show isB (1 : Int32) = true from rfl), lt_b, gd_t (show ob (wI ρ 101 61 _) 101 12 = true from oL101 M), sI_wk (by decide)]
  | succ j ih =>
    intro m fuel ρ hm hf M h5 h145
    obtain ⟨f, rfl, -⟩ := suc_of hf
    obtain ⟨ρ', a1, a2, a3, a4, a5, a6⟩ := ih (m + 1) f (wI ρ 109 m (sI ρ 145 m)) (by omega) (by omega) (Lay_wI M) (by rw [sI_wo (by decide)]; exact h5) (fun k hk => by rw [sI_wo (by decide)]; exact h145 k hk)
    refine ⟨ρ', ?_, a2, fun x k hx => by rw [a3 x k hx, sI_wo hx], Fr_tr (Fr_wI Fr_rf (Or.inl (by unfold Wtr; omega))) a4, fun k hk => by rw [a5 k (by omega), sI_wk (by omega)], fun k h1 h2 => ?_⟩
    · rw [f12_plan_p274, gd_t (oL101 M), h5, if_pos (nI_lt (by omega) (by omega)), lt_b, rL101_9 M, gd_t nz_s, lt_b, rL101_64 M, gd_t nz_s, gd_t (oL145 M), gd_t (inb_n (lL145 M) (by omega) (by decide)), gd_t (oL109 M), gd_t (inb_n (lL109 M) (by omega) (by decide)), ix_n (by omega), lt_b, lt_b, nI_1, a1, sI_wo (by decide)]
    · by_cases c : k = m
      · rw [c, a5 m (by omega), sI_w1]; exact h145 m (by omega)
      · exact a6 k (by omega) h2
