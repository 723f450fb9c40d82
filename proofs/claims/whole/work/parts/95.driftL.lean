/-! DRIFTING: both sides' recursion side by side -/
def cntF (p : Nat → Bool) : Nat → Nat
  | 0 => 0
  | n + 1 => if p n = true then cntF p n + 1 else cntF p n
theorem cnt_le {p : Nat → Bool} : ∀ n, cntF p n ≤ n := by
  intro n
  induction n with
  | zero => exact Nat.le_refl _
  | succ n ih =>
    unfold cntF
    by_cases h : p n = true
    · rw [if_pos h]; omega
    · rw [if_neg h]; omega
theorem cnt_mo {p q : Nat → Bool} : ∀ n, (∀ k, k < n → p k = true → q k = true) → cntF p n ≤ cntF q n := by
  intro n
  induction n with
  | zero => intro _; exact Nat.le_refl _
  | succ n ih =>
    intro h
    have i := ih (fun k hk => h k (by omega))
    unfold cntF
    by_cases c : p n = true
    · rw [if_pos c, if_pos (h n (by omega) c)]; omega
    · rw [if_neg c]
      by_cases d : q n = true
      · rw [if_pos d]; omega
      · rw [if_neg d]; exact i
theorem cnt_lt {p q : Nat → Bool} {o : Nat} : ∀ n, o < n → (∀ k, k < n → p k = true → q k = true) → ¬ p o = true → q o = true → cntF p n + 1 ≤ cntF q n := by
  intro n
  induction n with
  | zero => intro h; omega
  | succ n ih =>
    intro ho h h1 h2
    by_cases e : o = n
    · subst e
      have i := cnt_mo (p := p) (q := q) o (fun k hk => h k (by omega))
      unfold cntF
      rw [if_neg h1, if_pos h2]; omega
    · have i := ih (by omega) (fun k hk => h k (by omega)) h1 h2
      unfold cntF
      by_cases c : p n = true
      · rw [if_pos c, if_pos (h n (by omega) c)]; omega
      · rw [if_neg c]
        by_cases d : q n = true
        · rw [if_pos d]; omega
        · rw [if_neg d]; exact i
/-- which mills lie no further down than stretch t -/
def loF (f : Nat → Int32) (t q : Nat) : Bool := decide (0 ≤ f q ∧ ix (f q) % 12 ≤ t)
theorem lo_n {f : Nat → Int32} {t q u : Nat} (h : f q = nI u) (hu : u < 72) : loF f t q = true ↔ u % 12 ≤ t := by
  unfold loF
  rw [decide_eq_true_iff, h, ix_n (by omega)]
  exact ⟨fun w => w.2, fun w => ⟨nI_pos' (by omega), w⟩⟩
/-- m drifts, from stretch t: what has changed has come further down, or is gone -/
def MV (n m t : Nat) (f g : Nat → Int32) : Prop := ∀ q, q < n → g q = f q ∨ ((q = m ∨ ∃ u, u < 72 ∧ f q = nI u ∧ t < u % 12) ∧ (g q = -2 ∨ ∃ u, u < 72 ∧ g q = nI u ∧ t < u % 12))
theorem MV_rf {n m t : Nat} {f : Nat → Int32} : MV n m t f f := fun _ _ => Or.inl rfl
theorem MV_tr {n m t : Nat} {f g k : Nat → Int32} (a : MV n m t f g) (b : MV n m t g k) : MV n m t f k := by
  intro q hq
  rcases b q hq with e | ⟨h1, h2⟩
  · rcases a q hq with e2 | ⟨g1, g2⟩
    · exact Or.inl (e.trans e2)
    · exact Or.inr ⟨g1, by rw [e]; exact g2⟩
  · refine Or.inr ⟨?_, h2⟩
    rcases h1 with h1 | h1
    · exact Or.inl h1
    · rcases a q hq with e2 | ⟨g1, -⟩
      · rw [e2] at h1; exact Or.inr h1
      · exact g1
theorem MV_mo {n m t s : Nat} {f g : Nat → Int32} (a : MV n m s f g) (h : t ≤ s) : MV n m t f g := by
  intro q hq
  rcases a q hq with e | ⟨h1, h2⟩
  · exact Or.inl e
  · refine Or.inr ⟨?_, ?_⟩
    · rcases h1 with h1 | ⟨u, u1, u2, u3⟩
      · exact Or.inl h1
      · exact Or.inr ⟨u, u1, u2, by omega⟩
    · rcases h2 with h2 | ⟨u, u1, u2, u3⟩
      · exact Or.inl h2
      · exact Or.inr ⟨u, u1, u2, by omega⟩
theorem MV_of {n o m t s u : Nat} {f g : Nat → Int32} (a : MV n o s f g) (h : t ≤ s) (ho : f o = nI u) (hu : u < 72) (hs : t < u % 12) : MV n m t f g := by
  intro q hq
  rcases MV_mo a h q hq with e | ⟨h1, h2⟩
  · exact Or.inl e
  · refine Or.inr ⟨Or.inr ?_, h2⟩
    rcases h1 with h1 | h1
    · rw [h1]; exact ⟨u, hu, ho, hs⟩
    · exact h1
theorem MV_1 {n m t : Nat} {f g : Nat → Int32} (e : ∀ q, q ≠ m → g q = f q) (h : g m = -2 ∨ ∃ u, u < 72 ∧ g m = nI u ∧ t < u % 12) : MV n m t f g := by
  intro q _
  by_cases c : q = m
  · exact Or.inr ⟨Or.inl c, by rw [c]; exact h⟩
  · exact Or.inl (e q c)
theorem liesAt_d {σ : St} (L : Lay σ) {n m b : Nat} (sz : sI σ 2 5 = nI n) (n6 : n ≤ 6) (hm : m < n) (hat : sI σ 6 m = nI b) (hb : b < 72) : f8_liesAtBerth σ 2 (nI m) = some (1, σ) := by
  unfold f8_liesAtBerth
  rw [gd_t (oL2 L), bd_s (has_s L), ite_B, if_pos ⟨nI_pos' (by omega), by rw [sz]; exact nI_lt hm (by omega)⟩, lt_b, rL2_3 L, gd_t nz_s, gd_t (oL6 L), gd_t (inb_n (lL6 L) (by omega) (by decide)), ix_n (by omega), hat, if_neg (nI_pos (by omega))]
theorem DR_lie {n e : Nat} {h ic x : Int32} {σ ρ : St} (d : DR n e h ic σ ρ) {m : Nat} (hm : m < n) (hx : x = -2 ∨ x = -1 ∨ (∃ u, u < 72 ∧ x = nI u) ∧ ∀ q, q < n → q ≠ m → sI σ 6 q ≠ x) : DR n e h ic (wI σ 6 m x) (wI ρ 109 m x) := by
  refine DR_go d (Fr_wI Fr_rf (Or.inl (Or.inl ⟨rfl, hm⟩))) (Fr_wI Fr_rf (Or.inl (Or.inl rfl))) ?_ (fun q hq => ?_) (LO_set d.2.1.2.2 (m := m) (fun q => sI_ws _ _ _ _ _) hx)
  · obtain ⟨v, v0, v1, v2, v3⟩ := d.2.2.1
    exact ⟨v, v0, by rw [sI_wo (by decide)]; exact v1, by rw [sI_wo (by decide)]; exact v2, fun i hi => by rw [sI_wo (by decide), sI_wo (by decide)]; exact v3 i hi⟩
  · rw [sI_ws, sI_ws]
    by_cases c : q = m
    · rw [if_pos c, if_pos c]
    · rw [if_neg c, if_neg c]; exact d.2.1.2.1 q hq
def DSp (n e : Nat) (h ic : Int32) (F : St → Nat → Int32 → Int32 → Int32 → Option (Unit × St)) (G : St → Nat → Int32 → Int32 → Option (Unit × St)) (hits : Nat) : Prop :=
  ∀ (σ ρ : St) (m b : Nat) (pull : Int32), DR n e h ic σ ρ → m < n → b < 72 → sI σ 6 m = nI b → hits + 1 ≤ cntF (loF (sI σ 6) (b % 12)) n →
    ∃ σ' ρ', F σ 68 (nI m) pull (nI hits) = some ((), σ') ∧ G ρ 101 (nI m) pull = some ((), ρ') ∧ DR n e h ic σ' ρ' ∧ Fr (Wdc n) σ σ' ∧ Fr Wdm ρ ρ' ∧ MV n m (b % 12) (sI σ 6) (sI σ' 6)
theorem lyF_eq {f g : Nat → Int32} {n : Nat} {x : Int32} (e : ∀ m, m < n → f m = g m) : lyF f x n 0 = lyF g x n 0 := lyF_congr n 0 (fun k _ hk => e k (by omega))
theorem drift_p2_0 {G : St → Nat → Int32 → Int32 → Option (Unit × St)} {f : Nat} {ρ : St} {m pull : Int32} : f12_drifts_p2 G (f + 1) ρ 101 m pull 0 = some ((), ρ) := by rw [f12_drifts_p2, if_pos rfl]
theorem drift_lp {n e : Nat} {h ic : Int32} {F : St → Nat → Int32 → Int32 → Int32 → Option (Unit × St)} {G : St → Nat → Int32 → Int32 → Option (Unit × St)} {hits : Nat} (IH : hits ≤ 4 → DSp n e h ic F G (hits + 1)) (n6 : n ≤ 6) {m : Nat} (hm : m < n) (pull : Int32) : ∀ (j i f1 f2 b : Nat) (σ ρ : St), j + b % 12 = 11 → i ≤ b % 12 → j < f1 → j + 1 < f2 → DR n e h ic σ ρ → b < 72 → sI σ 6 m = nI b → hits + 1 ≤ cntF (loF (sI σ 6) (b % 12)) n →
    ∃ σ' ρ', f2_driftOn_p3 F f1 σ 68 (nI m) pull (nI hits) (nI i) = some ((), σ') ∧ f12_drifts_p2 G f2 ρ 101 (nI m) pull 1 = some ((), ρ') ∧ DR n e h ic σ' ρ' ∧ Fr (Wdc n) σ σ' ∧ Fr Wdm ρ ρ' ∧ MV n m (b % 12) (sI σ 6) (sI σ' 6) := by
  intro j
  induction j with
  | zero =>
    intro i f1 f2 b σ ρ hj hi hf1 hf2 d hb hat hc
    obtain ⟨f1, rfl, -⟩ := suc_of hf1
    obtain ⟨f2, rfl, -⟩ := suc_of hf2
    have L := d.1.1
    have Lr := d.1.2.1
    have hatr : sI ρ 109 m = nI b := by rw [d.2.1.2.1 m hm]; exact hat
    have d2 := DR_lie d hm (x := -2) (Or.inl rfl)
    obtain ⟨σ', ρ', t1, t2, t3, t4, t5, t6⟩ := tell_d d2 5 (nI m) (-1) (-1)
    refine ⟨σ', ρ', ?_, ?_, t5, Fr_tr (Fr_wI Fr_rf (Or.inl (Or.inl ⟨rfl, hm⟩))) (Fr_mo t3 (fun _ _ => tc_dc)), Fr_tr (Fr_wI Fr_rf (Or.inl (Or.inl rfl))) (Fr_mo t4 (fun _ _ => tm_dm)), ?_⟩
    · rw [f2_driftOn_p3, if_pos (show nI i < 12 from nI_lt (b := 12) (by omega) (by decide)), gd_t (oL68 L), lt_b, rL68_0 L, gd_t nz_s, gd_t (oL2 L), bd_s (liesAt_d L d.2.1.1 n6 hm hat hb), if_neg (by decide), lt_b, rL68_0 L, gd_t nz_s, gd_t (oL2 L), lt_b, rL2_3 L, gd_t nz_s, gd_t (oL6 L), gd_t (inb_n (lL6 L) (by omega) (by decide)), lt_b, ix_n (k := m) (by omega), hat, bd_s (stretchN (by omega)), if_pos (show nI (b % 12) = 11 by rw [show b % 12 = 11 by omega]; rfl), lt_b, rL68_0 L, gd_t nz_s, gd_t (oL2 L), lt_b, rL2_3 L, gd_t nz_s, gd_t (oL6 L), gd_t (inb_n (lL6 L) (by omega) (by decide)), lt_b, bd_s t1]
    · rw [f12_drifts_p2, if_neg (by decide), gd_t (oL101 Lr), lt_b, rL101_9 Lr, gd_t nz_s, gd_t (oL109 Lr), gd_t (inb_n (lL109 Lr) (by omega) (by decide)), ix_n (k := m) (by omega), hatr, n_mod12 (by omega), if_pos (show nI (b % 12) = 11 by rw [show b % 12 = 11 by omega]; rfl), lt_b, bd_s t2]
    · rw [t6]
      exact MV_1 (fun q hq => by rw [sI_ws, if_neg hq]) (Or.inl (by rw [sI_ws, if_pos rfl]))
  | succ j ih =>
    intro i f1 f2 b σ ρ hj hi hf1 hf2 d hb hat hc
    obtain ⟨f1, rfl, hf1'⟩ := suc_of hf1
    obtain ⟨f2, rfl, hf2'⟩ := suc_of hf2
    have L := d.1.1
    have R := d.1.2
    have Lr := d.1.2.1
    have h4 := d.2.2.2.2.1.1
    have h51 := d.2.2.2.2.1.2.1
    have hh := d.2.2.2.2.1.2.2
    have h5 := d.2.2.2.2.2.1
    have h52 := d.2.2.2.2.2.2
    have hatr : sI ρ 109 m = nI b := by rw [d.2.1.2.1 m hm]; exact hat
    have ea : ∀ q, q < n → sI ρ 109 q = sI σ 6 q := d.2.1.2.1
    have not11 : ¬ nI (b % 12) = 11 := fun q => by have := (nI_eq (a := b % 12) (b := 11) (by omega) (by omega)).mp q; omega
    have nbC := nextBerth_s L R.2.1 (m := m) (h := h) (show m < 6 by omega) hb (show b % 12 ≤ 10 by omega) h4
    have nbM := driftsTo_s R hm hb (show b % 12 ≤ 10 by omega) hatr h51 hh
    rw [f2_driftOn_p3, if_pos (show nI i < 12 from nI_lt (b := 12) (by omega) (by decide)), gd_t (oL68 L), lt_b, rL68_0 L, gd_t nz_s, gd_t (oL2 L), bd_s (liesAt_d L d.2.1.1 n6 hm hat hb), if_neg (by decide), lt_b, rL68_0 L, gd_t nz_s, gd_t (oL2 L), lt_b, rL2_3 L, gd_t nz_s, gd_t (oL6 L), gd_t (inb_n (lL6 L) (by omega) (by decide)), lt_b, ix_n (k := m) (by omega), hat, bd_s (stretchN (by omega)), if_neg not11, bd_s nbC]
    rw [f12_drifts_p2, if_neg (show ¬ (1 : Int32) = 0 by decide), gd_t (oL101 Lr), lt_b (sR ρ 101 9), rL101_9 Lr, gd_t (nz_t (show 0 < 109 by decide)), gd_t (oL109 Lr), gd_t (inb_n (lL109 Lr) (by omega) (by decide)), ix_n (k := m) (by omega), hatr, n_mod12 (by omega), if_neg not11, bd_s nbM]
    rcases nbF_ok (δ := σ) (m := m) (b := b) (h := h) (show b % 12 ≤ 10 by omega) with hn | ⟨u, hu, hn, hu2⟩
    · obtain ⟨σ', ρ', t1, t2, t3, t4, t5, t6⟩ := tell_d d 4 (nI m) (-1) (nI b)
      refine ⟨σ', ρ', ?_, ?_, t5, Fr_mo t3 (fun _ _ => tc_dc), Fr_mo t4 (fun _ _ => tm_dm), by rw [t6]; exact MV_rf⟩
      · rw [hn, if_pos rfl, bd_s t1]
      · rw [hn, if_pos rfl, lt_b, rL101_9 Lr, gd_t nz_s, gd_t (oL109 Lr), gd_t (inb_n (lL109 Lr) (by omega) (by decide)), hatr, bd_s t2]
    · -- the move itself, from any memories where u is free
      have move : ∀ σ2 ρ2, DR n e h ic σ2 ρ2 → sI σ2 6 m = nI b → (∀ q, q < n → sI σ2 6 q ≠ nI u) → hits + 1 ≤ cntF (loF (sI σ2 6) (b % 12)) n →
          ∃ σ' ρ', f2_driftOn_p134 F (f2_driftOn_p3 F f1) σ2 68 (nI m) pull (nI hits) (nI i) (nI u) = some ((), σ') ∧ f12_drifts_p126 G (f12_drifts_p2 G f2) ρ2 101 (nI m) pull (nI u) = some ((), ρ') ∧ DR n e h ic σ' ρ' ∧ Fr (Wdc n) σ2 σ' ∧ Fr Wdm ρ2 ρ' ∧ MV n m (b % 12) (sI σ2 6) (sI σ' 6) := by
        intro σ2 ρ2 dd at2 free hc2
        have L2 := dd.1.1
        have Lr2 := dd.1.2.1
        have dm := DR_lie dd hm (x := nI u) (Or.inr (Or.inr ⟨⟨u, hu, rfl⟩, fun q hq _ => free q hq⟩))
        have c2 : hits + 1 ≤ cntF (loF (sI (wI σ2 6 m (nI u)) 6) (u % 12)) n := by
          refine Nat.le_trans hc2 (cnt_mo n (fun q hq hp => ?_))
          by_cases c : q = m
          · rw [c, lo_n (u := u) (by rw [sI_ws, if_pos rfl]) hu]; exact Nat.le_refl _
          · have e2 : sI (wI σ2 6 m (nI u)) 6 q = sI σ2 6 q := by rw [sI_ws, if_neg c]
            unfold loF at hp ⊢
            rw [e2]
            rw [decide_eq_true_iff] at hp ⊢
            exact ⟨hp.1, by omega⟩
        obtain ⟨σ', ρ', w1, w2, w3, w4, w5, w6⟩ := ih (i + 1) f1 f2 u (wI σ2 6 m (nI u)) (wI ρ2 109 m (nI u)) (by omega) (by omega) (by omega) (by omega) dm hu (by rw [sI_ws, if_pos rfl]) c2
        have none : lyF (sI ρ2 109) (nI u) n 0 = -1 := by
          rcases lyF_sp (f := sI ρ2 109) (b := nI u) n 0 with ⟨q, -⟩ | ⟨o, -, o2, -, o4, -⟩
          · exact q
          · exact absurd (by rw [← dd.2.1.2.1 o (by omega)]; exact o4) (free o (by omega))
        refine ⟨σ', ρ', ?_, ?_, w3, Fr_tr (Fr_wI Fr_rf (Or.inl (Or.inl ⟨rfl, hm⟩))) w4, Fr_tr (Fr_wI Fr_rf (Or.inl (Or.inl rfl))) w5, ?_⟩
        · unfold f2_driftOn_p134
          rw [gd_t (oL68 L2), lt_b, rL68_0 L2, gd_t nz_s, gd_t (oL2 L2), lt_b, rL2_3 L2, gd_t nz_s, gd_t (oL6 L2), gd_t (inb_n (lL6 L2) (by omega) (by decide)), lt_b, lt_b, ix_n (k := m) (by omega), nI_1]
          exact w1
        · unfold f12_drifts_p126 f12_drifts_p145 f12_drifts_p175
          rw [gd_t (oL101 Lr2), bd_s (millAt_s Lr2 dd.1.2.2.2.2.2.2.1 n6), none, if_pos rfl, if_neg (by decide), gd_t (oL101 Lr2), lt_b, rL101_9 Lr2, gd_t nz_s, gd_t (oL109 Lr2), gd_t (inb_n (lL109 Lr2) (by omega) (by decide)), lt_b, ix_n (k := m) (by omega)]
          exact w2
        · refine MV_tr (MV_1 (fun q hq => by rw [sI_ws, if_neg hq]) (Or.inr ⟨u, hu, by rw [sI_ws, if_pos rfl], by omega⟩)) (MV_mo w6 (by omega))
      -- held fast by o
      have stop : ∀ o σ2 ρ2, o < n → DR n e h ic σ2 ρ2 → sI σ2 6 m = nI b → sI σ2 6 o = nI u →
          ∃ σ' ρ', f2_tell σ2 68 3 (nI m) (nI o) (nI b) = some ((), σ') ∧ f12_drifts_p126 G (f12_drifts_p2 G f2) ρ2 101 (nI m) pull (nI u) = some ((), ρ') ∧ DR n e h ic σ' ρ' ∧ Fr (Wdc n) σ2 σ' ∧ Fr Wdm ρ2 ρ' ∧ MV n m (b % 12) (sI σ2 6) (sI σ' 6) := by
        intro o σ2 ρ2 ho dd at2 ato
        have Lr2 := dd.1.2.1
        obtain ⟨σ', ρ', t1, t2, t3, t4, t5, t6⟩ := tell_d dd 3 (nI m) (nI o) (nI b)
        have there : lyF (sI ρ2 109) (nI u) n 0 = nI o := by
          rcases lyF_sp (f := sI ρ2 109) (b := nI u) n 0 with ⟨-, q⟩ | ⟨o', -, o2, o3, o4, -⟩
          · exact absurd (by rw [dd.2.1.2.1 o ho]; exact ato) (q o (by omega) (by omega))
          · rw [o3]
            have : o' = o := dd.2.1.2.2.2 o' o (by omega) ho (by rw [← dd.2.1.2.1 o' (by omega), o4, ato]) (by rw [← dd.2.1.2.1 o' (by omega), o4]; exact nI_pos' (by omega))
            rw [this]
        have atr : sI ρ2 109 m = nI b := by rw [dd.2.1.2.1 m hm]; exact at2
        refine ⟨σ', ρ', t1, ?_, t5, Fr_mo t3 (fun _ _ => tc_dc), Fr_mo t4 (fun _ _ => tm_dm), by rw [t6]; exact MV_rf⟩
        obtain ⟨f2, rfl, -⟩ := suc_of (show 0 < f2 by omega)
        unfold f12_drifts_p126 f12_drifts_p145 f12_drifts_p175
        rw [gd_t (oL101 Lr2), bd_s (millAt_s Lr2 dd.1.2.2.2.2.2.2.1 n6), there, if_neg (nI_m1 (by omega)), if_pos rfl, gd_t (oL101 Lr2), lt_b, rL101_9 Lr2, gd_t nz_s, gd_t (oL109 Lr2), gd_t (inb_n (lL109 Lr2) (by omega) (by decide)), ix_n (k := m) (by omega), atr, bd_s t2]
        exact drift_p2_0
      have mAt := millAt_s (b := nI u) Lr R.2.2.2.2.2.1 n6
      rw [lyF_eq ea] at mAt
      rw [hn, if_neg (nI_m1 (by omega)), if_neg (nI_m1 (by omega)), lt_b, rL68_0 L, gd_t nz_s, gd_t (oL2 L), lt_b, rL2_3 L, gd_t nz_s, bd_s (lyingAt_s L d.2.1.1 n6 (oL6 L) (lL6 L)), bd_s mAt]
      rcases lyF_sp (f := sI σ 6) (b := nI u) n 0 with ⟨q, q2⟩ | ⟨o, -, o2, o3, o4, -⟩
      · rw [q, if_pos rfl, if_pos rfl]
        exact move σ ρ d hat (fun k hk => q2 k (by omega) (by omega)) hc
      · have ho : o < n := by omega
        have om : o ≠ m := fun q => by
          rw [q, hat] at o4
          have := (nI_eq (a := b) (b := u) (by omega) (by omega)).mp o4
          rw [this] at hu2
          omega
        have c1 : hits + 1 + 1 ≤ cntF (loF (sI σ 6) (u % 12)) n := by
          refine Nat.le_trans (Nat.succ_le_succ hc) (cnt_lt (o := o) n ho (fun q hq hp => ?_) (fun hp => ?_) ((lo_n o4 hu).mpr (Nat.le_refl _)))
          · unfold loF at hp ⊢
            rw [decide_eq_true_iff] at hp ⊢
            exact ⟨hp.1, by omega⟩
          · have := (lo_n (t := b % 12) o4 hu).mp hp
            omega
        have cl := cnt_le (p := loF (sI σ 6) (u % 12)) n
        have hits4 : hits ≤ 4 := by omega
        have ato : sI ρ 109 o = nI u := by rw [ea o ho]; exact o4
        have pM := pulM_d (ice := ic) R ho (by rw [ato]; exact nI_pos' (by omega)) (LO_congr ea d.2.1.2.2) hh
        rw [plP_cg ho ea] at pM
        have pC := pull_s (h := h) (ice := ic) L R.2.1 d.2.1.1 n6 (oL6 L) (lL6 L) (show o < 6 by omega)
        have chr : sI ρ 108 o = sI σ (29 + o) 2 := (R.2.2.2.2.2.2.2 o ho).2.2.1
        rw [o3, if_neg (nI_m1 (by omega)), if_neg (nI_m1 (by omega)), h51, h52, bd_s pM, lt_b, rL101_8 Lr, gd_t nz_s, gd_t (oL108 Lr), gd_t (inb_n (lL108 Lr) (by omega) (by decide)), ix_n (k := o) (by omega), chr]
        unfold f2_makesWay
        rw [gd_t (oL68 L), lt_b, rL68_0 L, gd_t nz_s, gd_t (oL2 L), lt_b, rL2_3 L, gd_t nz_s, gd_t (oL6 L), gd_t (inb_n (lL6 L) (show o < 6 by omega) (by decide)), lt_b, ix_n (k := o) (by omega), o4, h4, h5, bd_s pC, lt_b, rL68_0 L, gd_t nz_s, gd_t (oL2 L), lt_b, rL2_2 L, gd_t nz_s, gd_t (oL5 L), gd_t (inb_n (lL5 L) (show o < 6 by omega) (by decide)), lt_b, (lay_boat L (show o < 6 by omega)).1, gd_t (nz_t (by omega)), gd_t (oboat L (show o < 6 by omega))]
        by_cases hc3 : plP σ n (sI σ 6) o h ic + pull ≤ sI σ (29 + o) 2
        · obtain ⟨σ', ρ', s1, s2, s3, s4, s5, s6⟩ := stop o σ ρ ho d hat o4
          rw [if_pos hc3, if_pos hc3, bd_1, if_pos rfl, bd_s s1]
          exact ⟨σ', ρ', rfl, s2, s3, s4, s5, s6⟩
        · rw [if_neg hc3, if_neg hc3, if_pos (show nI hits < 6 from nI_lt (b := 6) (by omega) (by decide))]
          obtain ⟨σ1, ρ1, t1, t2, t3, t4, t5, t6⟩ := tell_d d 2 (nI o) (nI m) (nI u)
          obtain ⟨σ2, ρ2, w1, w2, w3, w4, w5, w6⟩ := IH hits4 σ1 ρ1 o u (plP σ n (sI σ 6) o h ic) t5 ho hu (by rw [t6]; exact o4) (by rw [t6]; exact c1)
          rw [t6] at w6
          have L2 := w3.1.1
          have fc : Fr (Wdc n) σ σ2 := Fr_tr (Fr_mo t3 (fun _ _ => tc_dc)) w4
          have fm : Fr Wdm ρ ρ2 := Fr_tr (Fr_mo t4 (fun _ _ => tm_dm)) w5
          have mv : MV n m (b % 12) (sI σ 6) (sI σ2 6) := MV_of w6 (by omega) o4 hu (by omega)
          have at2 : sI σ2 6 m = nI b := by
            rcases w6 m hm with q | ⟨q, -⟩
            · rw [q]; exact hat
            · rcases q with q | ⟨x, hx, x2, x3⟩
              · exact absurd q.symm om
              · rw [hat] at x2
                have := (nI_eq (a := b) (b := x) (by omega) (by omega)).mp x2
                omega
          have nh : nI hits + 1 = nI (hits + 1) := nI_1 hits
          rw [bd_s t1, bd_s t2, nh, bd_s w1, bd_s w2, lt_b, rL68_0 L2, gd_t nz_s, gd_t (oL2 L2), lt_b, rL2_3 L2, gd_t nz_s, gd_t (oL6 L2), gd_t (inb_n (lL6 L2) (show o < 6 by omega) (by decide))]
          by_cases st : sI σ2 6 o = nI u
          · obtain ⟨σ', ρ', s1, s2, s3, s4, s5, s6⟩ := stop o σ2 ρ2 ho w3 at2 st
            rw [if_pos st, bd_1, if_pos rfl, bd_s s1]
            exact ⟨σ', ρ', rfl, s2, s3, Fr_tr fc s4, Fr_tr fm s5, MV_tr mv s6⟩
          · rw [if_neg st, bd_1, if_neg (by decide)]
            have free : ∀ q, q < n → sI σ2 6 q ≠ nI u := by
              intro q hq e6
              rcases w6 q hq with g1 | ⟨-, g1⟩
              · have : q = o := d.2.1.2.2.2 q o hq ho (by rw [← g1, e6, o4]) (by rw [← g1, e6]; exact nI_pos' (by omega))
                exact st (by rw [← this]; exact e6)
              · rcases g1 with g1 | ⟨x, hx, x2, x3⟩
                · rw [g1] at e6; exact nI_pos (n := u) (by omega) (by rw [← e6]; decide)
                · rw [x2] at e6
                  have := (nI_eq (a := x) (b := u) (by omega) (by omega)).mp e6
                  rw [this] at x3; omega
            have hc2 : hits + 1 ≤ cntF (loF (sI σ2 6) (b % 12)) n := by
              refine Nat.le_trans hc (cnt_mo n (fun q hq hp => ?_))
              rcases w6 q hq with g1 | ⟨g1, -⟩
              · unfold loF at hp ⊢
                rw [g1]; exact hp
              · rcases g1 with g1 | ⟨x, hx, x2, x3⟩
                · rw [g1] at hp
                  have := (lo_n (t := b % 12) o4 hu).mp hp
                  omega
                · have := (lo_n (t := b % 12) x2 hx).mp hp
                  omega
            obtain ⟨σ', ρ', s1, s2, s3, s4, s5, s6⟩ := move σ2 ρ2 w3 at2 free hc2
            exact ⟨σ', ρ', s1, s2, s3, Fr_tr fc s4, Fr_tr fm s5, MV_tr mv s6⟩
theorem drift_k {n e : Nat} {h ic : Int32} (n6 : n ≤ 6) : ∀ (k hits : Nat), k + hits = 10 → DSp n e h ic (f2_driftOn k) (f12_drifts k) hits := by
  intro k
  induction k with
  | zero =>
    intro hits hk σ ρ m b pull _ _ _ _ hc
    have := cnt_le (p := loF (sI σ 6) (b % 12)) n
    omega
  | succ k ih =>
    intro hits hk σ ρ m b pull d hm hb hat hc
    have i0 : DSp n e h ic (f2_driftOn k) (f12_drifts k) (hits + 1) := ih (hits + 1) (by omega)
    exact drift_lp (fun _ => i0) n6 hm pull (11 - b % 12) 0 FU FU b σ ρ (by omega) (by omega) (by unfold FU; omega) (by unfold FU; omega) d hb hat hc
