/-! MOVES, MOVE, GO -/
def Wgz (x k : Nat) : Prop := Wgo x k ∨ Wao x k
theorem gm_no {x k : Nat} (h : Wgz x k) : x = 6 ∨ 94 ≤ x ∧ x ≤ 99 ∨ x = 101 ∧ (k = 0 ∨ k = 76) ∨ x = 109 ∨ 149 ≤ x ∧ x ≤ 152 := by
  rcases h with h | h
  · have := fc_no h; omega
  · unfold Wao at h; omega
theorem fi_go {x k : Nat} (h : Wfi x k) : Wgo x k := Or.inr (Or.inl h)
theorem gM_two {W : Nat → Nat → Prop} {σ τ : St} {n d : Nat} {f : Nat → Int32} (h : Fr W σ τ) (L : Lay σ) (hw : ∀ a k, fpM a k → a ≠ 109 → a ≠ 6 → ¬ W a k) (h6 : ∀ m, m < n → sI τ 6 m = f m) (hl : ∀ m, m < n → sI τ 109 m = f m) (hx : ∀ m, n ≤ m → m < 6 → sI τ 6 m = sI σ 6 m) (lo : LO n f) (g : gM σ n d) : gM τ n d := by
  have hN := L.2.2
  have e : ∀ a k, fpM a k → a ≠ 109 → a ≠ 6 → sI τ a k = sI σ a k := fun a k q h2 h3 => Fr_i h (by unfold fpM at q; omega) (hw a k q h2 h3)
  have n6 := g.ri.2.1
  have eb : ∀ m k, m < 6 → sI τ (29 + m) k = sI σ (29 + m) k := fun m k hm => e _ _ (by unfold fpM; omega) (by omega) (by omega)
  have er : ∀ a k, 106 ≤ a → a ≤ 113 → a ≠ 109 → sI τ a k = sI σ a k := fun a k h1 h2 h3 => e _ _ (by unfold fpM; omega) h3 (by omega)
  refine ⟨by rw [e _ _ (by unfold fpM; omega) (by omega) (by omega)]; exact g.sz, ⟨by rw [e _ _ (by unfold fpM; omega) (by omega) (by omega)]; exact g.ri.1, n6, fun m hm => ?_⟩, fun m hm => by rw [h6 m hm]; exact hl m hm, LO_congr (fun m hm => h6 m hm) lo, fun m hm => ?_, fun m h1 h2 => ?_, fun m hm => ?_⟩
  · rw [er 106 _ (by omega) (by omega) (by omega), er 107 _ (by omega) (by omega) (by omega), er 108 _ (by omega) (by omega) (by omega), er 110 _ (by omega) (by omega) (by omega), er 111 _ (by omega) (by omega) (by omega), er 112 _ (by omega) (by omega) (by omega), er 113 _ (by omega) (by omega) (by omega), eb _ _ (by omega), eb _ _ (by omega), eb _ _ (by omega), eb _ _ (by omega), eb _ _ (by omega), eb _ _ (by omega), eb _ _ (by omega)]
    exact g.ri.2.2 m hm
  · rw [eb _ _ (by omega), eb _ _ (by omega), eb _ _ (by omega)]; exact g.rg m hm
  · rw [er 110 _ (by omega) (by omega) (by omega), er 111 _ (by omega) (by omega) (by omega), er 112 _ (by omega) (by omega) (by omega), hx m h1 h2, eb _ _ (by omega), eb _ _ (by omega), eb _ _ (by omega), eb _ _ (by omega)]; exact g.nw m h1 h2
  · rw [eb _ _ (by omega)]; exact g.wr m hm
theorem thr_go {σ σ1 : St} (F : Fr Wfi σ σ1) : Fr Wgo σ (wI σ1 101 0 0) := Fr_wI (Fr_mo F (fun _ _ => fi_go)) (Or.inl (Or.inr (Or.inr ⟨rfl, rfl⟩)))
theorem gM_go {σ σ1 τ : St} {n d : Nat} (L : Lay σ) (g : gM σ n d) (F : Fr Wfi σ σ1) (G : Fr Wao (wI σ1 101 0 0) τ) (h9 : ∀ k, k < n → sI τ 109 k = sI σ 6 k) : Fr Wgz σ τ ∧ gM τ n d := by
  have FF : Fr Wgz σ τ := Fr_tr (Fr_mo (thr_go F) (fun _ _ w => Or.inl w)) (Fr_mo G (fun _ _ w => Or.inr w))
  have hN := L.2.2
  have e6 : ∀ k, sI τ 6 k = sI σ 6 k := fun k => by
    have h1 : 6 ≤ sN (wI σ1 101 0 0) := (Lay_Fr (thr_go F) L).2.2 |> (fun w => by omega)
    rw [Fr_i G h1 (by unfold Wao; omega), sI_wo (by decide), Fr_i F (by omega) (by unfold Wfi; omega)]
  exact ⟨FF, gM_two FF L (fun a k w h9 h6 v => by have := gm_no v; unfold fpM at w; omega) (fun m _ => e6 m) h9 (fun m _ _ => e6 m) g.lo g⟩
theorem moves_q {σ : St} (L : Lay σ) {n d e p q : Nat} (bb : gB σ) (t : gT σ) (g : gM σ n d) (hd : gD σ e) (gk : gKK σ p q) (gq : gQ σ n) :
    ∃ r σ1 τ, f11_moves σ 1 = some (r, σ1) ∧ f12_moves σ1 101 = some (r, τ) ∧ Fr Wgz σ τ ∧ gM τ n d := by
  obtain ⟨v, σ1, a1, a2, a3⟩ := find_q L bb t g hd gk gq
  obtain ⟨τ, b1, b2, b3, -⟩ := a3 _ (thr_go a2)
  obtain ⟨f1, f2⟩ := gM_go L g a2 b2 b3
  refine ⟨v, σ1, τ, ?_, ?_, f1, f2⟩
  · unfold f11_moves
    rw [gd_t (oL1 L), lt_b, rL1_5 L, gd_t nz_s, bd_s (heightToday_s L hd gk.1), gd_t (oL94 L), bd_s a1]
  · unfold f12_moves
    rw [gd_t (oL101 (Lay_Fr a2 L)), lt_b, bd_s b1]
theorem move_q {σ : St} (L : Lay σ) {n d e p q : Nat} (bb : gB σ) (t : gT σ) (g : gM σ n d) (hd : gD σ e) (gk : gKK σ p q) (gq : gQ σ n) (i w : Int32) :
    ∃ r σ1 τ, f11_move σ 1 i w = some (r, σ1) ∧ f12_move σ1 101 i w = some (r, τ) ∧ Fr Wgz σ τ ∧ gM τ n d := by
  obtain ⟨v, σ1, a1, a2, a3⟩ := find_q L bb t g hd gk gq
  obtain ⟨τ, b1, b2, b3, b4⟩ := a3 _ (thr_go a2)
  obtain ⟨f1, f2⟩ := gM_go L g a2 b2 b3
  have L1 := Lay_Fr a2 L
  have M := Lay_Fr b2 (Lay_Fr (thr_go a2) L)
  have eC : f11_move σ 1 i w = if i < 0 then some (-1, σ1) else if i < v then (if i < 3 then (if w = 0 then gd (inb σ1 95 i) (some (sI σ1 95 (ix i), σ1)) else if w = 1 then gd (inb σ1 96 i) (some (sI σ1 96 (ix i), σ1)) else some (-1, σ1)) else some (-1, σ1)) else some (-1, σ1) := by
    unfold f11_move
    rw [gd_t (oL1 L), lt_b, rL1_5 L, gd_t nz_s, bd_s (heightToday_s L hd gk.1), gd_t (oL94 L), bd_s a1, lt_b, rL1_5 L1, gd_t nz_s, gd_t (oL94 L1), lt_b, rL94_2 L1, gd_t nz_s, gd_t (oL95 L1), lt_b, gd_t nz_s, gd_t (oL94 L1), lt_b, rL94_3 L1, gd_t nz_s, gd_t (oL96 L1)]
  have eM : f12_move σ1 101 i w = if i < 0 then some (-1, τ) else if i < v then (if 0 ≤ w ∧ w ≤ 1 then (if w = 0 then gd (inb τ 149 i) (some (sI τ 149 (ix i), τ)) else gd (inb τ 150 i) (some (sI τ 150 (ix i), τ))) else some (-1, τ)) else some (-1, τ) := by
    unfold f12_move
    rw [gd_t (oL101 L1), lt_b, bd_s b1, bd_s within_s, ite_B, lt_b, rL101_74 M, gd_t nz_s, gd_t (oL149 M), lt_b, rL101_75 M, gd_t nz_s, gd_t (oL150 M)]
  by_cases c0 : i < 0
  · exact ⟨-1, σ1, τ, by rw [eC, if_pos c0], by rw [eM, if_pos c0], f1, f2⟩
  · by_cases c1 : i < v
    · rcases b4 with w1 | ⟨b, fd, -, -, -, ev, f3, f5, -, -⟩
      · have v0 : v.toInt < 0 := by rcases w1 with w1 | w1 <;> rw [w1] <;> decide
        rw [t_lt] at c0 c1
        have z : (0 : Int32).toInt = 0 := rfl
        omega
      · rw [ev] at c1
        obtain ⟨k, hk, rfl⟩ := inN (lim := fd) rfl (by omega) ⟨Int32.not_lt.mp c0, c1⟩
        obtain ⟨x1, x2, -⟩ := f5 k hk
        have c3 : nI k < 3 := nI_lt (b := 3) (by omega) (by decide)
        rw [← ev] at c1
        by_cases w0 : w = 0
        · refine ⟨sI σ1 95 k, σ1, τ, ?_, ?_, f1, f2⟩
          · rw [eC, if_neg c0, if_pos c1, if_pos c3, if_pos w0, gd_t (inb_n (lL95 L1) (by omega) (by decide)), ix_n (by omega)]
          · rw [eM, if_neg c0, if_pos c1, if_pos (by rw [w0]; decide), if_pos w0, gd_t (inb_n (lL149 M) (by omega) (by decide)), ix_n (by omega), x1]
        · by_cases w1 : w = 1
          · refine ⟨sI σ1 96 k, σ1, τ, ?_, ?_, f1, f2⟩
            · rw [eC, if_neg c0, if_pos c1, if_pos c3, if_neg w0, if_pos w1, gd_t (inb_n (lL96 L1) (by omega) (by decide)), ix_n (by omega)]
            · rw [eM, if_neg c0, if_pos c1, if_pos (by rw [w1]; decide), if_neg w0, gd_t (inb_n (lL150 M) (by omega) (by decide)), ix_n (by omega), x2]
          · refine ⟨-1, σ1, τ, by rw [eC, if_neg c0, if_pos c1, if_pos c3, if_neg w0, if_neg w1], ?_, f1, f2⟩
            rw [eM, if_neg c0, if_pos c1, if_neg]
            intro u
            have u1 := t_le.mp u.1
            have u2 := t_le.mp u.2
            have z : (0 : Int32).toInt = 0 := rfl
            have o : (1 : Int32).toInt = 1 := rfl
            have n0 : w.toInt ≠ (0 : Int32).toInt := fun e => w0 (t_eq.mpr e)
            have n1 : w.toInt ≠ (1 : Int32).toInt := fun e => w1 (t_eq.mpr e)
            omega
    · exact ⟨-1, σ1, τ, by rw [eC, if_neg c0, if_neg c1], by rw [eM, if_neg c0, if_neg c1], f1, f2⟩
/-- the class moves them -/
theorem goC_l {n fd : Nat} {v : Int32} {mv : Nat → Nat} (n6 : n ≤ 6) (hv : v = nI fd) (f3 : fd ≤ 3) (hmv : ∀ k, k < fd → mv k < n) : ∀ (j k fuel : Nat) (σ : St), k + j = fd → j < fuel → Lay σ → sI σ 2 5 = nI n → (∀ q, q < fd → sI σ 95 q = nI (mv q)) →
    ∃ σ', f11_go_p14 fuel σ 1 v (nI k) = some (v, σ') ∧ Fr (fun x _ => x = 6) σ σ' ∧ (∀ m, (∃ q, k ≤ q ∧ q < fd ∧ mv q = m) → sI σ' 6 m = sI σ 79 m) ∧ ∀ m, (∀ q, k ≤ q → q < fd → mv q ≠ m) → sI σ' 6 m = sI σ 6 m := by
  intro j
  induction j with
  | zero =>
    intro k fuel σ hk hf L h5 h95
    obtain ⟨g, rfl, -⟩ := suc_of hf
    refine ⟨σ, ?_, Fr_rf, fun m ⟨q, q1, q2, _⟩ => absurd q2 (by omega), fun _ _ => rfl⟩
    rw [f11_go_p14, hv, if_neg (nI_nlt (by omega) (by omega))]
  | succ j ih =>
    intro k fuel σ hk hf L h5 h95
    obtain ⟨g, rfl, -⟩ := suc_of hf
    have mn := hmv k (by omega)
    have L1 : Lay (wI σ 6 (mv k) (sI σ 79 (mv k))) := Lay_wI L
    obtain ⟨σ', a1, a2, a3, a4⟩ := ih (k + 1) g (wI σ 6 (mv k) (sI σ 79 (mv k))) (by omega) (by omega) L1 (by rw [sI_wo (by decide)]; exact h5) (fun q hq => by rw [sI_wo (by decide)]; exact h95 q hq)
    refine ⟨σ', ?_, Fr_tr (Fr_wI Fr_rf (Or.inl rfl)) a2, fun m ⟨q, q1, q2, q3⟩ => ?_, fun m al => ?_⟩
    · have next : f11_go_p63 (f11_go_p14 g) (wI σ 6 (mv k) (sI σ 79 (mv k))) 1 v (nI k) = some (v, σ') := by
        unfold f11_go_p63
        rw [lt_b, nI_1]
        exact a1
      rw [f11_go_p14, if_pos (show nI k < v by rw [hv]; exact nI_lt (by omega) (by omega)), if_pos (show nI k < 3 from nI_lt (b := 3) (by omega) (by decide)), gd_t (oL1 L), lt_b, rL1_5 L, gd_t nz_s, gd_t (oL94 L), lt_b, rL94_2 L, gd_t nz_s, gd_t (oL95 L), gd_t (inb_n (lL95 L) (by omega) (by decide)), ix_n (by omega), h95 k (by omega), lt_b, lt_b, rL1_0 L, gd_t nz_s, gd_t (oL2 L), bd_s (has_s L), h5, ite_B, if_pos ⟨nI_pos' (by omega), nI_lt mn (by omega)⟩, lt_b, rL1_0 L, gd_t nz_s, gd_t (oL2 L), lt_b, rL2_3 L, gd_t nz_s, lt_b, rL1_4 L, gd_t nz_s, gd_t (oL78 L), lt_b, rL78_2 L, gd_t nz_s, gd_t (oL79 L), gd_t (inb_n (lL79 L) (by omega) (by decide)), gd_t (oL6 L), gd_t (inb_n (lL6 L) (by omega) (by decide)), ix_n (by omega), lt_b, next]
    · by_cases later : ∃ q, k + 1 ≤ q ∧ q < fd ∧ mv q = m
      · rw [a3 m later, sI_wo (by decide)]
      · have e : mv k = m := by
          by_cases ek : q = k
          · rw [← ek]; exact q3
          · exact absurd ⟨q, by omega, q2, q3⟩ later
        rw [a4 m (fun q h1 h2 h3 => later ⟨q, h1, h2, h3⟩), ← e, sI_w1]
    · rw [a4 m (fun q h1 h2 => al q (by omega) h2), sI_wk (fun e => al k (Nat.le_refl _) (by omega) e.symm)]
/-- the reference moves them -/
theorem goM_l {n b : Nat} {v : Int32} {pt : Nat → Int32} (n6 : n ≤ 6) (hv : 0 < v) : ∀ (j m fuel : Nat) (ρ : St), m + j = n → j < fuel → Lay ρ → sI ρ 101 5 = nI n → sI ρ 101 62 = nI b → (∀ k, k < n → bitP (nI b) k = true → sI ρ 144 k = pt k) →
    ∃ ρ', f12_go_p12 fuel ρ 101 v (nI m) = some (v, ρ') ∧ Fr Wao ρ ρ' ∧ (∀ k, k < m → sI ρ' 109 k = sI ρ 109 k) ∧ ∀ k, m ≤ k → k < n → sI ρ' 109 k = if bitP (nI b) k = true then pt k else sI ρ 109 k := by
  have nv : ¬ v ≤ 0 := fun w => by
    rw [t_le] at w
    rw [t_lt] at hv
    omega
  intro j
  induction j with
  | zero =>
    intro m fuel ρ hm hf M h5 h62 h144
    obtain ⟨g, rfl, -⟩ := suc_of hf
    refine ⟨ρ, ?_, Fr_rf, fun _ _ => rfl, fun k h1 h2 => absurd h2 (by omega)⟩
    rw [f12_go_p12, gd_t (oL101 M), h5, if_neg (nI_nlt (by omega) (by omega))]
  | succ j ih =>
    intro m fuel ρ hm hf M h5 h62 h144
    obtain ⟨g, rfl, -⟩ := suc_of hf
    have next : ∀ ρ1, f12_go_p44 (f12_go_p12 g) ρ1 101 v (nI m) = f12_go_p12 g ρ1 101 v (nI (m + 1)) := fun ρ1 => by
      unfold f12_go_p44
      rw [lt_b, nI_1]
    have head : f12_go_p12 (g + 1) ρ 101 v (nI m) = if bitP (nI b) m = true then f12_go_p12 g (wI ρ 109 m (sI ρ 144 m)) 101 v (nI (m + 1)) else f12_go_p12 g ρ 101 v (nI (m + 1)) := by
      rw [f12_go_p12, gd_t (oL101 M), h5, if_pos (nI_lt (by omega) (by omega)), if_neg nv, bd_s (isIn_s M h62 m), ite_B, next, lt_b, rL101_9 M, gd_t nz_s, lt_b, rL101_63 M, gd_t nz_s, gd_t (oL144 M), gd_t (inb_n (lL144 M) (by omega) (by decide)), gd_t (oL109 M), gd_t (inb_n (lL109 M) (by omega) (by decide)), ix_n (by omega), lt_b, next]
    by_cases c : bitP (nI b) m = true
    · obtain ⟨ρ', a1, a2, a3, a4⟩ := ih (m + 1) g (wI ρ 109 m (sI ρ 144 m)) (by omega) (by omega) (Lay_wI M) (by rw [sI_wo (by decide)]; exact h5) (by rw [sI_wo (by decide)]; exact h62) (fun k h1 h2 => by rw [sI_wo (by decide)]; exact h144 k h1 h2)
      refine ⟨ρ', by rw [head, if_pos c]; exact a1, Fr_tr (Fr_wI Fr_rf (Or.inl (Or.inl rfl))) a2, fun k hk => by rw [a3 k (by omega), sI_wk (by omega)], fun k h1 h2 => ?_⟩
      by_cases e : k = m
      · rw [e, if_pos c, a3 m (by omega), sI_w1]; exact h144 m (by omega) c
      · rw [a4 k (by omega) h2, sI_wk e]
    · obtain ⟨ρ', a1, a2, a3, a4⟩ := ih (m + 1) g ρ (by omega) (by omega) M h5 h62 h144
      refine ⟨ρ', by rw [head, if_neg c]; exact a1, a2, fun k hk => a3 k (by omega), fun k h1 h2 => ?_⟩
      by_cases e : k = m
      · rw [e, if_neg c, a3 m (by omega)]
      · exact a4 k (by omega) h2
theorem go_q {σ : St} (L : Lay σ) {n d e p q : Nat} (bb : gB σ) (t : gT σ) (g : gM σ n d) (hd : gD σ e) (gk : gKK σ p q) (gq : gQ σ n) :
    ∃ r σ1 τ, f11_go σ 1 = some (r, σ1) ∧ f12_go σ1 101 = some (r, τ) ∧ Fr Wgz σ τ ∧ gM τ n d := by
  have hN := L.2.2
  have n6 := g.ri.2.1
  obtain ⟨v, σ1, a1, a2, a3⟩ := find_q L bb t g hd gk gq
  have L1 := Lay_Fr a2 L
  have k1 : ∀ x k, x ≤ 153 → ¬ (94 ≤ x ∧ x ≤ 99) → sI σ1 x k = sI σ x k := fun x k h1 h2 => Fr_i a2 (by omega) (by unfold Wfi; omega)
  have eC : f11_go σ 1 = f11_go_p14 FU σ1 1 v 0 := by
    unfold f11_go
    rw [gd_t (oL1 L), lt_b, rL1_5 L, gd_t nz_s, bd_s (heightToday_s L hd gk.1), gd_t (oL94 L), bd_s a1]
  obtain ⟨τ0, b1, b2, b3, b4⟩ := a3 _ (thr_go a2)
  have M0 := Lay_Fr b2 (Lay_Fr (thr_go a2) L)
  -- nothing to do
  have still : v.toInt ≤ 0 → ∃ r σ1 τ, f11_go σ 1 = some (r, σ1) ∧ f12_go σ1 101 = some (r, τ) ∧ Fr Wgz σ τ ∧ gM τ n d := fun hv => by
    obtain ⟨f1, f2⟩ := gM_go L g a2 b2 b3
    have z : (0 : Int32).toInt = 0 := rfl
    refine ⟨v, σ1, τ0, ?_, ?_, f1, f2⟩
    · rw [eC]
      show f11_go_p14 (2999 + 1) σ1 1 v 0 = _
      rw [f11_go_p14, if_neg (fun w => by rw [t_lt] at w; omega)]
    · unfold f12_go
      rw [gd_t (oL101 L1), lt_b, bd_s b1]
      show f12_go_p12 (2999 + 1) τ0 101 v 0 = _
      rw [f12_go_p12, gd_t (oL101 M0), if_pos (show v ≤ 0 by rw [t_le]; omega)]
      by_cases c : (0 : Int32) < sI τ0 101 5
      · rw [if_pos c]
      · rw [if_neg c]
  rcases b4 with w | ⟨b, fd, ⟨b0, bn⟩, h62, h144, ev, f3, f5, f6, f7⟩
  · refine still ?_
    rcases w with w | w <;> rw [w] <;> decide
  · by_cases z0 : fd = 0
    · refine still ?_
      rw [ev, z0]; decide
    · have v0 : 0 < v := by rw [ev]; exact nI_lt (a := 0) (by omega) (by omega)
      -- which ones move
      obtain ⟨mv, hmv⟩ : ∃ mv : Nat → Nat, ∀ k, k < fd → mv k < n ∧ bitP (nI b) (mv k) = true ∧ sI σ1 95 k = nI (mv k) := by
        refine ⟨fun k => (sI σ1 95 k).toInt.toNat, fun k hk => ?_⟩
        obtain ⟨-, -, m, m1, m2, m3⟩ := f5 k hk
        have e : (sI σ1 95 k).toInt.toNat = m := by rw [m3, nI_toInt (by omega)]; rfl
        show (sI σ1 95 k).toInt.toNat < n ∧ bitP (nI b) ((sI σ1 95 k).toInt.toNat) = true ∧ sI σ1 95 k = nI ((sI σ1 95 k).toInt.toNat)
        rw [e]
        exact ⟨m1, m2, m3⟩
      obtain ⟨σ2, c1, c2, c3, c4⟩ := goC_l n6 ev f3 (fun k hk => (hmv k hk).1) fd 0 FU σ1 (by omega) (by unfold FU; omega) L1 (by rw [k1 _ _ (by omega) (by omega)]; exact g.sz) (fun q hq => (hmv q hq).2.2)
      have F2 : Fr Wgo σ (wI σ2 101 0 0) := Fr_wI (Fr_tr (Fr_mo a2 (fun _ _ => fi_go)) (Fr_mo c2 (fun x k w => Or.inl w))) (Or.inl (Or.inr (Or.inr ⟨rfl, rfl⟩)))
      have L2 := Lay_Fr c2 L1
      have k2 : ∀ x k, x ≤ 153 → x ≠ 6 → sI σ2 x k = sI σ1 x k := fun x k h1 h2 => Fr_i c2 (by have := L1.2.2; omega) h2
      obtain ⟨τ1, d1, d2, d3, -⟩ := a3 _ F2
      have M1 := Lay_Fr d2 (Lay_Fr F2 L)
      have kt : ∀ x k, x ≤ 153 → ¬ Wao x k → sI τ1 x k = sI (wI σ2 101 0 0) x k := fun x k h1 h2 => Fr_i d2 (show x ≤ sN σ2 by have := L2.2.2; omega) h2
      have kk : ∀ x k, x ≤ 153 → ¬ Wao x k → ¬ (x = 101 ∧ k = 0) → x ≠ 6 → ¬ (94 ≤ x ∧ x ≤ 99) → sI τ1 x k = sI σ x k := fun x k h1 h2 h3 h4 h5 => by
        rw [kt x k h1 h2, sI_wI, if_neg h3, k2 x k h1 h4, k1 x k h1 h5]
      obtain ⟨τ, e1, e2, -, e4⟩ := goM_l (pt := sI σ 79) n6 v0 n 0 FU τ1 (by omega) (by unfold FU; omega) M1 (by rw [kk _ _ (by omega) (by unfold Wao; omega) (by omega) (by omega) (by omega)]; exact g.ri.1) (by rw [kk _ _ (by omega) (by unfold Wao; omega) (by omega) (by omega) (by omega)]; exact h62) (fun k h1 h2 => by rw [kk _ _ (by omega) (by unfold Wao; omega) (by omega) (by omega) (by omega)]; exact h144 k h1 h2)
      have FF : Fr Wgz σ τ := Fr_tr (Fr_mo F2 (fun _ _ w => Or.inl w)) (Fr_mo (Fr_tr d2 e2) (fun _ _ w => Or.inr w))
      have t6 : ∀ k, sI τ 6 k = sI σ2 6 k := fun k => by
        rw [Fr_i e2 (show 6 ≤ sN τ1 by have := M1.2.2; omega) (by unfold Wao; omega), kt _ _ (by omega) (by unfold Wao; omega), sI_wo (by decide)]
      refine ⟨v, σ2, τ, ?_, ?_, FF, gM_two (f := gF b (sI σ 79) (sI σ 6)) FF L (fun a k w h9 h6 u => by have := gm_no u; unfold fpM at w; omega) (fun m hm => ?_) (fun m hm => ?_) (fun m h1 h2 => ?_) f7 g⟩
      · rw [eC]; exact c1
      · have e1' : f12_go_p12 FU τ1 101 v 0 = some (v, τ) := e1
        unfold f12_go
        rw [gd_t (oL101 L2), lt_b, bd_s d1, e1']
      · rw [t6]
        by_cases mo : ∃ q, 0 ≤ q ∧ q < fd ∧ mv q = m
        · obtain ⟨q, q1, q2, q3⟩ := mo
          rw [c3 m ⟨q, q1, q2, q3⟩, k1 _ _ (by omega) (by omega)]
          unfold gF
          rw [if_pos (by rw [← q3]; exact (hmv q q2).2.1)]
        · rw [c4 m (fun q h1 h2 h3 => mo ⟨q, h1, h2, h3⟩), k1 _ _ (by omega) (by omega)]
          unfold gF
          by_cases hp : bitP (nI b) m = true
          · rw [if_pos hp]
            by_cases ne : sI σ 6 m = sI σ 79 m
            · exact ne
            · obtain ⟨q, q1, q2⟩ := f6 m hm (mpB_t.mpr ⟨hp, ne⟩)
              have hq := hmv q q1
              rw [hq.2.2] at q2
              exact absurd ⟨q, by omega, q1, (nI_eq (by omega) (by omega)).mp q2⟩ mo
          · rw [if_neg hp]
      · rw [e4 m (by omega) hm, d3 m hm]
        rfl
      · rw [t6, c4 m (fun q _ hq e => by have := (hmv q hq).1; omega), k1 _ _ (by omega) (by omega)]
