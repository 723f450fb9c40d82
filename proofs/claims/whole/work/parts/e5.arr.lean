/-! ORDERS in which mills can move: class and reference try the same ones -/
def mpB (b : Nat) (pt f : Nat → Int32) (m : Nat) : Bool := bitP (nI b) m && decide (f m ≠ pt m)
theorem mpB_t {b : Nat} {pt f : Nat → Int32} {m : Nat} : mpB b pt f m = true ↔ bitP (nI b) m = true ∧ f m ≠ pt m := by
  unfold mpB
  rw [Bool.and_eq_true]
  exact ⟨fun w => ⟨w.1, of_decide_eq_true w.2⟩, fun w => ⟨w.1, decide_eq_true w.2⟩⟩
def gF (b : Nat) (pt f : Nat → Int32) (m : Nat) : Int32 := if bitP (nI b) m = true then pt m else f m
/-- the class's mover with a plan; the reference's -/
def PA (δ : St) (n b : Nat) (h : Int32) (pt f : Nat → Int32) (σ : St) : Prop := CA δ n h f σ ∧ sI σ 78 3 = nI b ∧ b < 2 ^ n ∧ ∀ m, m < n → bitP (nI b) m = true → sI σ 79 m = pt m
def PQr (δ : St) (n b : Nat) (pt f : Nat → Int32) (ρ : St) : Prop := CR δ n f ρ ∧ sI ρ 101 62 = nI b ∧ ∀ m, m < n → bitP (nI b) m = true → sI ρ 144 m = pt m
theorem PA_Fr {W : Nat → Nat → Prop} {δ σ τ : St} {n b : Nat} {h : Int32} {pt f g : Nat → Int32} (F : Fr W σ τ) (hw : ∀ x k, x ≤ 34 ∨ x = 94 ∧ k = 8 ∨ x = 78 ∨ x = 79 → ¬ W x k) (e : ∀ k, k < n → sI τ 97 k = g k) (c : PA δ n b h pt f σ) : PA δ n b h pt g τ := by
  obtain ⟨⟨L, c1, c2, c3, c4, c5⟩, d1, d2, d3⟩ := c
  have hN := L.2.2
  exact ⟨⟨Lay_Fr F L, fun x hx => funext fun k => by rw [Fr_i F (by omega) (hw x k (by omega)), c1 x hx], c2, c3, by rw [Fr_i F (by omega) (hw _ _ (by omega))]; exact c4, e⟩, by rw [Fr_i F (by omega) (hw _ _ (by omega))]; exact d1, d2, fun m hm hp => by rw [Fr_i F (by omega) (hw _ _ (by omega))]; exact d3 m hm hp⟩
theorem PQr_Fr {W : Nat → Nat → Prop} {δ ρ ρ' : St} {n b : Nat} {pt f g : Nat → Int32} (F : Fr W ρ ρ') (hw : ∀ x k, 102 ≤ x ∧ x ≤ 113 ∧ x ≠ 109 ∨ x = 101 ∧ (k = 5 ∨ k = 62) ∨ x = 144 → ¬ W x k) (e : ∀ k, k < n → sI ρ' 109 k = g k) (c : PQr δ n b pt f ρ) : PQr δ n b pt g ρ' := by
  obtain ⟨⟨R, c1⟩, d1, d2⟩ := c
  have hN := R.1.2.2
  exact ⟨⟨RiV_Fr F (fun a k w => hw a k (by omega)) R, e⟩, by rw [Fr_i F (by omega) (hw _ _ (by omega))]; exact d1, fun m hm hp => by rw [Fr_i F (by omega) (hw _ _ (by omega))]; exact d2 m hm hp⟩
theorem PA_in {δ σ : St} {n b m : Nat} {h : Int32} {pt f : Nat → Int32} (c : PA δ n b h pt f σ) (hm : m < 6) (hp : bitP (nI b) m = true) : m < n := by
  have n6 := c.1.2.2.2.1
  have tw := two_le n6
  rcases Nat.lt_or_ge m n with w | w
  · exact w
  · have := bit_all b (by have := c.2.2.1; omega) n (by omega) c.2.2.1 m hm w
    rw [hp] at this
    exact absurd this (by decide)
theorem p4_skip (F : St → Nat → Int32 → Option (Int32 × St)) {δ σ : St} {n b m g : Nat} {h v1 fl : Int32} {pt f : Nat → Int32} (c : PA δ n b h pt f σ) (hm : m < 6) (no : ¬ mpB b pt f m = true) : f5_arrange_p4 F (g + 1) σ 94 v1 fl (nI m) = f5_arrange_p4 F g σ 94 v1 fl (nI (m + 1)) := by
  have L := c.1.1
  have step : f5_arrange_p57 F (f5_arrange_p4 F g) σ 94 v1 fl (nI m) = f5_arrange_p4 F g σ 94 v1 fl (nI (m + 1)) := by
    unfold f5_arrange_p57
    rw [lt_b, nI_1]
  rw [f5_arrange_p4, if_pos (show nI m < 6 from nI_lt (b := 6) hm (by decide)), gd_t (oL94 L), lt_b, rL94_1 L, gd_t nz_s, gd_t (oL78 L), bd_s (has6_b L c.2.1 hm), ite_B]
  by_cases hp : bitP (nI b) m = true
  · have mn := PA_in c hm hp
    have e : f m = pt m := by
      by_cases q : f m = pt m
      · exact q
      · exact absurd (mpB_t.mpr ⟨hp, q⟩) no
    rw [if_pos hp, lt_b, rL94_4 L, gd_t nz_s, gd_t (oL97 L), gd_t (inb_n (lL97 L) hm (by decide)), lt_b, rL94_1 L, gd_t nz_s, gd_t (oL78 L), lt_b, rL78_2 L, gd_t nz_s, gd_t (oL79 L), gd_t (inb_n (lL79 L) hm (by decide)), ix_n (by omega), c.1.2.2.2.2.2 m mn, c.2.2.2 m mn hp, if_pos e, step]
  · rw [if_neg hp, step]
theorem p4_mis (F : St → Nat → Int32 → Option (Int32 × St)) {δ σ : St} {n b m g lv : Nat} {h fl : Int32} {pt f : Nat → Int32} (c : PA δ n b h pt f σ) (hm : m < n) (hl : lv < 3) (mp : mpB b pt f m = true) : f5_arrange_p4 F (g + 1) σ 94 (nI lv) fl (nI m) = bd (f5_arrangeWith F σ 94 (nI m) (nI lv)) fun r28 t29 => if r28 = 0 then f5_arrange_p4 F g t29 94 (nI lv) 0 (nI (m + 1)) else some (1, t29) := by
  have L := c.1.1
  have n6 := c.1.2.2.2.1
  obtain ⟨hp, ne⟩ := mpB_t.mp mp
  rw [f5_arrange_p4, if_pos (show nI m < 6 from nI_lt (b := 6) (by omega) (by decide)), gd_t (oL94 L), lt_b, rL94_1 L, gd_t nz_s, gd_t (oL78 L), bd_s (has6_b L c.2.1 (show m < 6 by omega)), ite_B, if_pos hp, lt_b, rL94_4 L, gd_t nz_s, gd_t (oL97 L), gd_t (inb_n (lL97 L) (by omega) (by decide)), lt_b, rL94_1 L, gd_t nz_s, gd_t (oL78 L), lt_b, rL78_2 L, gd_t nz_s, gd_t (oL79 L), gd_t (inb_n (lL79 L) (by omega) (by decide)), ix_n (by omega), c.1.2.2.2.2.2 m hm, c.2.2.2 m hm hp, if_neg ne, if_pos (show nI lv < 3 from nI_lt (b := 3) hl (by decide))]
  unfold f5_arrange_p57
  simp only [lt_b, nI_1]
/-- none is amiss from m on -/
theorem p4_end (F : St → Nat → Int32 → Option (Int32 × St)) {δ σ : St} {n b : Nat} {h v1 fl : Int32} {pt f : Nat → Int32} (c : PA δ n b h pt f σ) (hf : fl = 0 ∨ fl = 1) : ∀ (j m fuel : Nat), m + j = 6 → j < fuel → (∀ k, m ≤ k → k < n → ¬ mpB b pt f k = true) → f5_arrange_p4 F fuel σ 94 v1 fl (nI m) = if fl = 0 then some (0, σ) else some (1, wI σ 94 9 v1) := by
  intro j
  induction j with
  | zero =>
    intro m fuel hm hfu no
    obtain ⟨g, rfl, -⟩ := suc_of hfu
    have e : m = 6 := by omega
    rw [f5_arrange_p4, e, if_neg (by decide)]
    rcases hf with rfl | rfl
    · rw [if_pos rfl, if_pos rfl, gd_t (by rfl)]
    · rw [if_neg (by decide), if_neg (by decide), gd_t (oL94 c.1.1), lt_b, gd_t (by rfl)]
  | succ j ih =>
    intro m fuel hm hfu no
    obtain ⟨g, rfl, -⟩ := suc_of hfu
    rw [p4_skip F c (by omega) (fun w => by
      by_cases mn : m < n
      · exact no m (Nat.le_refl _) mn w
      · exact mn (PA_in c (by omega) (mpB_t.mp w).1))]
    exact ih (m + 1) g (by omega) (by omega) (fun k h1 h2 => no k (by omega) h2)
/-- the reference: is any amiss -/
theorem p5_head (F : St → Nat → Int32 → Int32 → Option (Int32 × St)) {δ ρ : St} {n b m g : Nat} {h v1 fl : Int32} {pt f : Nat → Int32} (c : PQr δ n b pt f ρ) (hm : m < n) : f12_orders_p5 F (g + 1) ρ 101 v1 h fl (nI m) = f12_orders_p5 F g ρ 101 v1 h (if mpB b pt f m = true then 0 else fl) (nI (m + 1)) := by
  have M := c.1.1.1
  have n6 := c.1.1.2.2.2.2.2.2.1
  have step : ∀ x, f12_orders_p42 F (f12_orders_p5 F g) ρ 101 v1 h x (nI m) = f12_orders_p5 F g ρ 101 v1 h x (nI (m + 1)) := fun x => by
    unfold f12_orders_p42
    rw [lt_b, nI_1]
  rw [f12_orders_p5, gd_t (oL101 M), c.1.1.2.2.2.2.2.1, if_pos (nI_lt hm (by omega)), bd_s (isIn_s M c.2.1 m), ite_B, step]
  by_cases hp : bitP (nI b) m = true
  · rw [if_pos hp, lt_b, rL101_9 M, gd_t nz_s, gd_t (oL109 M), gd_t (inb_n (lL109 M) (by omega) (by decide)), lt_b, rL101_63 M, gd_t nz_s, gd_t (oL144 M), gd_t (inb_n (lL144 M) (by omega) (by decide)), ix_n (by omega), c.1.2 m hm, c.2.2 m hm hp, step]
    by_cases e : f m = pt m
    · rw [if_pos e, if_neg (fun w => (mpB_t.mp w).2 e)]
    · rw [if_neg e, if_pos (mpB_t.mpr ⟨hp, e⟩)]
  · rw [if_neg hp, if_neg (fun w => hp (mpB_t.mp w).1)]
theorem p5_all (F : St → Nat → Int32 → Int32 → Option (Int32 × St)) {δ ρ : St} {n b : Nat} {h v1 : Int32} {pt f : Nat → Int32} (c : PQr δ n b pt f ρ) : ∀ (j m fuel : Nat) (fl : Int32), m + j = n → j < fuel → (fl = 0 ∨ fl = 1) →
    (((fl = 0 ∨ ∃ k, m ≤ k ∧ k < n ∧ mpB b pt f k = true) → f12_orders_p5 F fuel ρ 101 v1 h fl (nI m) = f12_orders_p62 F FU ρ 101 v1 h 0) ∧
     ((fl = 1 ∧ ∀ k, m ≤ k → k < n → ¬ mpB b pt f k = true) → f12_orders_p5 F fuel ρ 101 v1 h fl (nI m) = some (1, wI ρ 101 76 v1))) := by
  have M := c.1.1.1
  have n6 := c.1.1.2.2.2.2.2.2.1
  intro j
  induction j with
  | zero =>
    intro m fuel fl hm hf hfl
    obtain ⟨g, rfl, -⟩ := suc_of hf
    have e : m = n := by omega
    subst e
    have base : f12_orders_p5 F (g + 1) ρ 101 v1 h fl (nI m) = if fl = 0 then f12_orders_p62 F FU ρ 101 v1 h 0 else some (1, wI ρ 101 76 v1) := by
      rw [f12_orders_p5, gd_t (oL101 M), c.1.1.2.2.2.2.2.1, if_neg (nI_nlt (by omega) (by omega)), lt_b]
    rw [base]
    constructor
    · rintro (w | ⟨k, h1, h2, -⟩)
      · rw [if_pos w]
      · exact absurd h2 (by omega)
    · rintro ⟨w, -⟩
      rw [w, if_neg (by decide)]
  | succ j ih =>
    intro m fuel fl hm hf hfl
    obtain ⟨g, rfl, -⟩ := suc_of hf
    rw [p5_head F c (by omega)]
    by_cases q : mpB b pt f m = true
    · rw [if_pos q]
      obtain ⟨i1, -⟩ := ih (m + 1) g 0 (by omega) (by omega) (Or.inl rfl)
      exact ⟨fun _ => i1 (Or.inl rfl), fun w => absurd q (w.2 m (Nat.le_refl _) (by omega))⟩
    · rw [if_neg q]
      obtain ⟨i1, i2⟩ := ih (m + 1) g fl (by omega) (by omega) hfl
      refine ⟨fun w => i1 ?_, fun w => i2 ⟨w.1, fun k h1 h2 => w.2 k (by omega) h2⟩⟩
      rcases w with w | ⟨k, h1, h2, h3⟩
      · exact Or.inl w
      · refine Or.inr ⟨k, ?_, h2, h3⟩
        rcases Nat.lt_or_ge k (m + 1) with lt | ge
        · have : k = m := by omega
          rw [this] at h3
          exact absurd h3 q
        · exact ge
