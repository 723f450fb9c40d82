/-! THE CLASS TRIES, and leaves out what can't be better -/
theorem lay_ch {σ : St} (L : Lay σ) {l : Nat} (hl : l < 3) : sR σ 81 l = 82 + l ∧ sR σ 86 l = 87 + l ∧ ob σ (82 + l) 14 = true ∧ ob σ (87 + l) 14 = true ∧ (sK σ (82 + l)).2 = 25 ∧ (sK σ (87 + l)).2 = 25 := by
  have : l = 0 ∨ l = 1 ∨ l = 2 := by omega
  rcases this with rfl | rfl | rfl
  · exact ⟨rL81_0 L, rL86_0 L, oL82 L, oL87 L, lL82 L, lL87 L⟩
  · exact ⟨rL81_1 L, rL86_1 L, oL83 L, oL88 L, lL83 L, lL88 L⟩
  · exact ⟨rL81_2 L, rL86_2 L, oL84 L, oL89 L, lL84 L, lL89 L⟩
theorem tops_l {δ : St} {n : Nat} {p : Nat → Bool} {h ice : Int32} {fr to : Nat} {wy : Nat → Nat} {my : Nat → Nat → Bool} {f0 f : Nat → Int32} {s : Int32 × (Nat → Int32)} {σ : St} (F : St → Nat → Int32 → Option (Unit × St)) (V : VT δ) (n6 : n ≤ 6) (S : CM δ n p h ice fr to wy my f0 f s σ) (l y : Int32) : ∀ (j m fuel : Nat), m + j = n → j < fuel → f6_tryMill_p29 F fuel σ 78 l (y + smF (fun o => tqF δ n f o h) m) (nI m) = f6_tryMill_p67 F FU σ 78 l (y + smF (fun o => tqF δ n f o h) n) 0 := by
  obtain ⟨⟨L, e34, h5⟩, ⟨s1, s2, s3⟩, c, lt, w, b13, b92, b93⟩ := id S
  have sz : sI σ 2 5 = nI n := by rw [e34 2 (by decide)]; exact h5
  intro j
  induction j with
  | zero =>
    intro m fuel hm hf
    obtain ⟨g, rfl, -⟩ := suc_of hf
    have e : m = n := by omega
    subst e
    rw [f6_tryMill_p29, gd_t (oL78 L), lt_b, rL78_0 L, gd_t nz_s, gd_t (oL2 L), sz, if_neg (nI_nlt (by omega) (by omega))]
  | succ j ih =>
    intro m fuel hm hf
    obtain ⟨g, rfl, -⟩ := suc_of hf
    rw [f6_tryMill_p29, gd_t (oL78 L), lt_b, rL78_0 L, gd_t nz_s, gd_t (oL2 L), sz, if_pos (nI_lt (by omega) (by omega)), lt_b, rL78_10 L, gd_t nz_s, s2, bd_s (topPower_s L (rv_VT e34 V) sz n6 (oL92 L) (lL92 L) (by omega)), rv_tq e34 n6 (by omega) b92, lt_b, lt_b, nI_1, Int32.add_assoc]
    exact ih (m + 1) g (by omega) (by omega)
/-- one choice tried -/
theorem berth_s {δ : St} {n : Nat} {p : Nat → Bool} {h ice : Int32} {fr to : Nat} {wy : Nat → Nat} {my : Nat → Nat → Bool} {f0 f : Nat → Int32} (n6 : n ≤ 6) (w3 : ctP p n ≤ 3) (t11 : to ≤ 11) (hwy : ∀ q, fr ≤ q → q ≤ to → wy q < 100) {d m g : Nat} (hm : m + (d + 1) = n) (pm : p m = true) (fm : f m = -1) (lf : Lf n f) (ms : MS n f0 f) (fn : ∀ q, m ≤ q → q < n → p q = true → f q = -1)
    (ow : ∀ q, fr ≤ q → q ≤ to → wy q ≤ mostF (opF δ n f q h) 6)
    (ih : ∀ (f : Nat → Int32) (s : Int32 × (Nat → Int32)) (σ : St), CM δ n p h ice fr to wy my f0 f s σ → (∀ q, m + 1 ≤ q → q < n → p q = true → f q = -1) → Lf n f → MS n f0 f → (∀ q, fr ≤ q → q ≤ to → wy q ≤ mostF (opF δ n f q h) 6) → -1 ≤ s.1.toInt →
      ∃ σ', f6_tryMill g σ 78 (nI (ctP p (m + 1))) = some ((), σ') ∧ Fr Wcm σ σ' ∧ CM δ n p h ice fr to wy my f0 f (RM (wgF δ n p h ice fr to wy) p (caF n fr to my) d (m + 1) f s) σ')
    {s : Int32 × (Nat → Int32)} {σ : St} (S : CM δ n p h ice fr to wy my f0 f s σ) (hv : -1 ≤ s.1.toInt) {b : Nat} (hb : b < 72) (hr : fr ≤ b % 12 ∧ b % 12 ≤ to) (hy : my m b = true) :
    ∃ σ', f6_tryBerth (f6_tryMill g) σ 78 (nI (ctP p m)) (nI b) = some ((), σ') ∧ Fr Wcm σ σ' ∧ CM δ n p h ice fr to wy my f0 f (if caF n fr to my m b f = true then RM (wgF δ n p h ice fr to wy) p (caF n fr to my) d (m + 1) (ud f m (nI b)) s else s) σ' := by
  obtain ⟨⟨L, e34, h5⟩, ⟨s1, s2, s3⟩, c, lt, w, b13, b92, b93⟩ := id S
  have sz : sI σ 2 5 = nI n := by rw [e34 2 (by decide)]; exact h5
  have l3 := ctP_lt (q := p) (show m < n by omega) pm
  obtain ⟨c1, -⟩ := c m (by omega) pm
  have nb : ¬ nI b = -1 := nI_m1 (by omega)
  unfold f6_tryBerth
  rw [if_neg nb, gd_t (oL78 L), lt_b, rL78_0 L, gd_t nz_s, lt_b, rL78_10 L, gd_t nz_s, gd_t (oL2 L), bd_s (lyingAt_s L sz n6 (oL92 L) (lL92 L)), lyF_eq b92]
  by_cases cl : lyF f (nI b) n 0 = -1
  · have cn : caF n fr to my m b f = true := by unfold caF; rw [decide_eq_true hr, hy, decide_eq_true cl]; rfl
    rw [if_pos cl, if_pos cn]
    have L1 : Lay (wI σ 92 m (nI b)) := Lay_wI L
    have F1 : Fr Wcm σ (wI σ 92 m (nI b)) := Fr_wI Fr_rf (Or.inl (by unfold Wcm; omega))
    have S1 : CM δ n p h ice fr to wy my f0 (ud f m (nI b)) s (wI σ 92 m (nI b)) := CM_Fr w3 S F1 (fun k hk => by
      unfold ud
      by_cases e : k = m
      · rw [if_pos e, e, sI_w1]
      · rw [if_neg e, sI_wk e]; exact b92 k hk) (by rw [sI_wo (by decide)]; exact b13) (fun k hk => by rw [sI_wo (by decide)]; exact b93 k hk)
    -- back to none
    have back : ∀ τ t, Fr Wcm σ τ → CM δ n p h ice fr to wy my f0 (ud f m (nI b)) t τ → ∃ σ', f6_tryBerth_p79 (f6_tryMill g) τ 78 (nI m) = some ((), σ') ∧ Fr Wcm σ σ' ∧ CM δ n p h ice fr to wy my f0 f t σ' := fun τ t F2 S2 => by
      have L2 := S2.1.1
      have F3 : Fr Wcm τ (wI τ 92 m (-1)) := Fr_wI Fr_rf (Or.inl (by unfold Wcm; omega))
      refine ⟨wI τ 92 m (-1), ?_, Fr_tr F2 F3, CM_Fr w3 S2 F3 (fun k hk => ?_) (by rw [sI_wo (by decide)]; exact S2.2.2.2.2.2.1) (fun k hk => by rw [sI_wo (by decide)]; exact S2.2.2.2.2.2.2.2 k hk)⟩
      · unfold f6_tryBerth_p79
        rw [gd_t (oL78 L2), lt_b, rL78_10 L2, gd_t nz_s, gd_t (oL92 L2), gd_t (inb_n (lL92 L2) (by omega) (by decide)), lt_b, ix_n (by omega)]
      · by_cases e : k = m
        · rw [e, sI_w1, fm]
        · rw [sI_wk e, S2.2.2.2.2.2.2.1 k hk]; unfold ud; rw [if_neg e]
    unfold f6_tryBerth_p22
    rw [gd_t (oL78 L), lt_b, rL78_4 L, gd_t nz_s, gd_t (oL80 L), gd_t (inb_n (lL80 L) (by omega) (by decide)), lt_b, ix_n (k := ctP p m) (by omega), c1, lt_b, rL78_10 L, gd_t nz_s, gd_t (oL92 L), gd_t (inb_n (lL92 L) (by omega) (by decide)), lt_b, ix_n (k := m) (by omega), if_neg nb, lt_b, rL78_0 L1, gd_t nz_s, bd_s stretchOf_s, lt_b, rL78_9 L1, gd_t nz_s, bd_s stretchOf_s, n_mod12 (by omega), gd_t (oL91 L1), gd_t (inb_n (lL91 L1) (by omega) (by decide)), lt_b, rL78_10 L1, gd_t nz_s, gd_t (oL2 L1), ix_n (k := b % 12) (by omega), sI_wo (b := 91) (by decide), w _ hr.1 hr.2, sI_wo (b := 78) (by decide), s2,
      bd_s (isOpen_s (n := n) L1 (by rw [sI_wo (by decide)]; exact sz) n6 (oL92 L1) (lL92 L1) (by omega) (hwy _ hr.1 hr.2)), rv_op S1.1.2.1 S1.2.2.2.2.2.2.1]
    by_cases cw : wy (b % 12) ≤ mostF (opF δ n (ud f m (nI b)) (b % 12) h) 6
    · rw [if_pos cw, if_neg (show ¬ (1 : Int32) = 0 by decide)]
      obtain ⟨σ2, a1, a2, a3⟩ := ih (ud f m (nI b)) s _ S1 (fun q h1 h2 h3 => by unfold ud; rw [if_neg (by omega)]; exact fn q (by omega) h2 h3) (Lf_put lf hb) (MS_tr ms (MS_put fm)) (fun q h1 h2 => by
        by_cases e : q = b % 12
        · rw [e]; exact cw
        · rw [mostF_cg 6 (op_put n6 (by omega) hb fm (fun w => e w.symm))]; exact ow q h1 h2) hv
      obtain ⟨σ3, d1, d2, d3⟩ := back σ2 _ (Fr_tr F1 a2) a3
      refine ⟨σ3, ?_, d2, d3⟩
      unfold f6_tryBerth_p72
      rw [gd_t (oL78 L1), nI_1, ← ctP_t pm, bd_s a1]
      exact d1
    · rw [if_neg cw, if_pos rfl]
      obtain ⟨σ3, d1, d2, d3⟩ := back _ s F1 S1
      refine ⟨σ3, d1, d2, ?_⟩
      rw [RM_shut n6 t11 hr.1 hr.2 (by omega) (fun q h1 h2 h3 => by unfold ud; rw [if_neg (by omega)]; exact fn q (by omega) h2 h3) cw hv]
      exact d3
  · rw [if_neg cl, if_neg (fun w => cl (by unfold caF at w; simp only [Bool.and_eq_true, decide_eq_true_eq] at w; exact w.2.2))]
    exact ⟨σ, rfl, Fr_rf, S⟩
theorem none_s {δ : St} {n : Nat} {p : Nat → Bool} {h ice : Int32} {fr to : Nat} {wy : Nat → Nat} {my : Nat → Nat → Bool} {f0 f : Nat → Int32} (n6 : n ≤ 6) (w3 : ctP p n ≤ 3) {d m g : Nat} (hm : m + (d + 1) = n) (pm : p m = true) (fm : f m = -1) (lf : Lf n f) (ms : MS n f0 f) (fn : ∀ q, m ≤ q → q < n → p q = true → f q = -1)
    (ow : ∀ q, fr ≤ q → q ≤ to → wy q ≤ mostF (opF δ n f q h) 6)
    (ih : ∀ (f : Nat → Int32) (s : Int32 × (Nat → Int32)) (σ : St), CM δ n p h ice fr to wy my f0 f s σ → (∀ q, m + 1 ≤ q → q < n → p q = true → f q = -1) → Lf n f → MS n f0 f → (∀ q, fr ≤ q → q ≤ to → wy q ≤ mostF (opF δ n f q h) 6) → -1 ≤ s.1.toInt →
      ∃ σ', f6_tryMill g σ 78 (nI (ctP p (m + 1))) = some ((), σ') ∧ Fr Wcm σ σ' ∧ CM δ n p h ice fr to wy my f0 f (RM (wgF δ n p h ice fr to wy) p (caF n fr to my) d (m + 1) f s) σ')
    {s : Int32 × (Nat → Int32)} {σ : St} (S : CM δ n p h ice fr to wy my f0 f s σ) (hv : -1 ≤ s.1.toInt) :
    ∃ σ', f6_tryBerth (f6_tryMill g) σ 78 (nI (ctP p m)) (-1) = some ((), σ') ∧ Fr Wcm σ σ' ∧ CM δ n p h ice fr to wy my f0 f (RM (wgF δ n p h ice fr to wy) p (caF n fr to my) d (m + 1) f s) σ' := by
  obtain ⟨⟨L, e34, h5⟩, ⟨s1, s2, s3⟩, c, lt, w, b13, b92, b93⟩ := id S
  have l3 := ctP_lt (q := p) (show m < n by omega) pm
  obtain ⟨c1, -⟩ := c m (by omega) pm
  have put : ∀ τ t, CM δ n p h ice fr to wy my f0 f t τ → CM δ n p h ice fr to wy my f0 f t (wI τ 92 m (-1)) := fun τ t S2 =>
    CM_Fr w3 S2 (Fr_wI Fr_rf (Or.inl (by unfold Wcm; omega))) (fun k hk => by
      by_cases e : k = m
      · rw [e, sI_w1, fm]
      · rw [sI_wk e]; exact S2.2.2.2.2.2.2.1 k hk) (by rw [sI_wo (by decide)]; exact S2.2.2.2.2.2.1) (fun k hk => by rw [sI_wo (by decide)]; exact S2.2.2.2.2.2.2.2 k hk)
  have L1 : Lay (wI σ 92 m (-1)) := Lay_wI L
  obtain ⟨σ2, a1, a2, a3⟩ := ih f s _ (put σ s S) (fun q h1 h2 h3 => fn q (by omega) h2 h3) lf ms ow hv
  have L2 := a3.1.1
  refine ⟨wI σ2 92 m (-1), ?_, Fr_tr (Fr_tr (Fr_wI Fr_rf (Or.inl (by unfold Wcm; omega))) a2) (Fr_wI Fr_rf (Or.inl (by unfold Wcm; omega))), put σ2 _ a3⟩
  unfold f6_tryBerth f6_tryBerth_p22 f6_tryBerth_p72 f6_tryBerth_p79
  rw [if_pos rfl, gd_t (oL78 L), lt_b, rL78_4 L, gd_t nz_s, gd_t (oL80 L), gd_t (inb_n (lL80 L) (by omega) (by decide)), lt_b, ix_n (k := ctP p m) (by omega), c1, lt_b, rL78_10 L, gd_t nz_s, gd_t (oL92 L), gd_t (inb_n (lL92 L) (by omega) (by decide)), lt_b, ix_n (k := m) (by omega), if_pos rfl, gd_t (oL78 L1), nI_1, ← ctP_t pm, bd_s a1, gd_t (oL78 L2), lt_b, rL78_10 L2, gd_t nz_s, gd_t (oL92 L2), gd_t (inb_n (lL92 L2) (by omega) (by decide)), lt_b]
theorem tryC_s {δ : St} {n : Nat} {p : Nat → Bool} {h ice : Int32} {fr to : Nat} {wy : Nat → Nat} {my : Nat → Nat → Bool} {f0 : Nat → Int32} (T : TPh δ n) (w3 : ctP p n ≤ 3) (t11 : to ≤ 11) (hft : fr ≤ to) (t3 : to ≤ fr + 3) (hwy : ∀ q, fr ≤ q → q ≤ to → wy q < 100) (lf0 : Lf n f0) :
    ∀ (d m fuel : Nat) (f : Nat → Int32) (s : Int32 × (Nat → Int32)) (σ : St), m + d = n → ctP p n < ctP p m + fuel → CM δ n p h ice fr to wy my f0 f s σ → (∀ q, m ≤ q → q < n → p q = true → f q = -1) → Lf n f → MS n f0 f → (∀ q, fr ≤ q → q ≤ to → wy q ≤ mostF (opF δ n f q h) 6) → -1 ≤ s.1.toInt →
      ∃ σ', f6_tryMill fuel σ 78 (nI (ctP p m)) = some ((), σ') ∧ Fr Wcm σ σ' ∧ CM δ n p h ice fr to wy my f0 f (RM (wgF δ n p h ice fr to wy) p (caF n fr to my) d m f s) σ' := by
  have n6 := T.2.1
  have V := T.1
  intro d
  induction d with
  | zero =>
    intro m fuel f s σ hm hf S fn lf ms ow hv
    have e : m = n := by omega
    subst e
    obtain ⟨g, rfl, -⟩ := suc_of (show 0 < fuel by omega)
    have L := S.1.1
    obtain ⟨σ', a1, a2, a3⟩ := weighC_l V n6 w3 S ((okW_t t11).mpr ow) hv m 0 FU (by omega) (by unfold FU; omega) rfl
    refine ⟨σ', ?_, a2, a3⟩
    show f6_tryMill_b (f6_tryMill g) σ 78 (nI (ctP p m)) = _
    unfold f6_tryMill_b f6_tryMill_p13 f6_weigh
    have a1' : f6_weigh_p2 FU σ 78 0 = some ((), σ') := a1
    rw [gd_t (oL78 L), S.2.1.1, if_neg (nI_nlt (Nat.le_refl _) (by omega)), gd_t (oL78 L), bd_s a1']
  | succ d ih =>
    intro m fuel f s σ hm hf S fn lf ms ow hv
    by_cases pm : p m = true
    · obtain ⟨g, rfl, -⟩ := suc_of (show 0 < fuel by have := ctP_lt (q := p) (show m < n by omega) pm; omega)
      have l3 := ctP_lt (q := p) (show m < n by omega) pm
      have fm := fn m (Nat.le_refl _) (by omega) pm
      have ihg := fun f s σ => ih (m + 1) g f s σ (by omega) (by rw [ctP_t pm]; omega)
      have L := S.1.1
      rw [RM_t pm]
      have y9 := S.2.2.2.1 (m + 1) (by omega)
      rw [ctP_t pm, show n - (m + 1) = d by omega] at y9
      have tr : ∀ q, q < n → 0 ≤ (tmF δ n h f0 (fun m b => caF n fr to my m b f0) q).toInt ∧ (tmF δ n h f0 (fun m b => caF n fr to my m b f0) q).toInt ≤ 400 := fun q hq => (tm_rg T lf0 hq).1
      obtain ⟨y0, y1⟩ := ltD_rg (tm := tmF δ n h f0 (fun m b => caF n fr to my m b f0)) (p := p) d (m + 1) (by omega) (fun q _ h2 => tr q (by omega))
      obtain ⟨z0, z1, z2⟩ := siF_sm (g := fun o => tqF δ n f o h) (M := 400) ⟨by decide, by decide⟩ n n6 (fun o ho => by
        have b := tp_mo (h := h) T lf lf (fun _ _ _ => rfl) ho rfl
        exact ⟨b.1, b.2.2⟩)
      obtain ⟨top, ht⟩ : ∃ top, ltD (tmF δ n h f0 (fun m b => caF n fr to my m b f0)) p d (m + 1) + smF (fun o => tqF δ n f o h) n = top := ⟨_, rfl⟩
      have tt : top.toInt = (ltD (tmF δ n h f0 (fun m b => caF n fr to my m b f0)) p d (m + 1)).toInt + siF (fun o => (tqF δ n f o h).toInt) n := by
        rw [← ht, t_add (by omega) (by omega), z0]
      have c24 : ctP (fun b => caF n fr to my m b f0) 72 ≤ 24 := by
        refine Nat.le_trans (ctP_le (r := fun b => decide (fr ≤ b % 12 ∧ b % 12 ≤ to)) (fun k w => ?_) 72) (ctP_24 fr (by omega) to (by omega) t3)
        unfold caF at w
        simp only [Bool.and_eq_true] at w
        exact w.1
      obtain ⟨lc1, lc2, lc3, lc4, lc5, lc6⟩ := lay_ch L (l := ctP p m) (by omega)
      have rows := S.2.2.1 m (by omega) pm
      -- one round of the class's loop
      have step : ∀ (fu c : Nat) (v t : Int32) (σ : St) (s : Int32 × (Nat → Int32)), CM δ n p h ice fr to wy my f0 f s σ → c ≤ ctP (fun b => caF n fr to my m b f0) 72 → sI σ (82 + ctP p m) c = v → sI σ (87 + ctP p m) c = t →
          f6_tryMill_p67 (f6_tryMill g) (fu + 1) σ 78 (nI (ctP p m)) top (nI c) = if top + t ≤ s.1 then f6_tryMill_p67 (f6_tryMill g) fu σ 78 (nI (ctP p m)) top (nI (c + 1)) else bd (f6_tryBerth (f6_tryMill g) σ 78 (nI (ctP p m)) v) fun _ t62 => f6_tryMill_p67 (f6_tryMill g) fu t62 78 (nI (ctP p m)) top (nI (c + 1)) := by
        intro fu c v t σ s S hc hv ht
        have L := S.1.1
        obtain ⟨lc1, lc2, lc3, lc4, lc5, lc6⟩ := lay_ch L (l := ctP p m) (by omega)
        have rows := S.2.2.1 m (by omega) pm
        rw [f6_tryMill_p67, gd_t (oL78 L), lt_b, rL78_6 L, gd_t nz_s, gd_t (oL85 L), gd_t (inb_n (lL85 L) (by omega) (by decide)), ix_n (k := ctP p m) (by omega), rows.2.1, if_pos (nI_lt (by omega) (by omega)), lt_b, rL78_7 L, gd_t nz_s, gd_t (oL86 L), gd_t (inb_n (lL86 L) (by omega) (by decide)), lt_b, lc2, gd_t (nz_t (by omega)), gd_t lc4, gd_t (inb_n lc6 (by omega) (by decide)), ix_n (k := c) (by omega), ht, S.2.2.2.2.2.1]
        by_cases q : top + t ≤ s.1
        · rw [if_pos q, if_pos q]
          unfold f6_tryMill_p107
          rw [lt_b, nI_1]
        · rw [if_neg q, if_neg q, lt_b, rL78_5 L, gd_t nz_s, gd_t (oL81 L), gd_t (inb_n (lL81 L) (by omega) (by decide)), lt_b, lc1, gd_t (nz_t (by omega)), gd_t lc3, gd_t (inb_n lc5 (by omega) (by decide)), hv]
          unfold f6_tryMill_p107
          simp only [lt_b, nI_1]
      have stop : ∀ (fu : Nat) (σ : St) (s : Int32 × (Nat → Int32)), CM δ n p h ice fr to wy my f0 f s σ → f6_tryMill_p67 (f6_tryMill g) (fu + 1) σ 78 (nI (ctP p m)) top (nI (ctP (fun b => caF n fr to my m b f0) 72 + 1)) = some ((), σ) := by
        intro fu σ s S
        have L := S.1.1
        have rows := S.2.2.1 m (by omega) pm
        rw [f6_tryMill_p67, gd_t (oL78 L), lt_b, rL78_6 L, gd_t nz_s, gd_t (oL85 L), gd_t (inb_n (lL85 L) (by omega) (by decide)), ix_n (k := ctP p m) (by omega), rows.2.1, if_neg (nI_nlt (Nat.le_refl _) (by omega))]
      have loop : ∀ (j b fu : Nat) (s : Int32 × (Nat → Int32)) (σ : St), b + j = 72 → j + 1 < fu → CM δ n p h ice fr to wy my f0 f s σ → -1 ≤ s.1.toInt → ∃ σ', f6_tryMill_p67 (f6_tryMill g) fu σ 78 (nI (ctP p m)) top (nI (ctP (fun b => caF n fr to my m b f0) b)) = some ((), σ') ∧ Fr Wcm σ σ' ∧
          CM δ n p h ice fr to wy my f0 f (RM (wgF δ n p h ice fr to wy) p (caF n fr to my) d (m + 1) f (fbF (fun b s => if caF n fr to my m b f = true then RM (wgF δ n p h ice fr to wy) p (caF n fr to my) d (m + 1) (ud f m (nI b)) s else s) j b s)) σ' := by
        intro j
        induction j with
        | zero =>
          intro b fu s σ hb hfu S hv
          have e : b = 72 := by omega
          subst e
          obtain ⟨q, rfl, -⟩ := suc_of (show 0 < fu by omega)
          obtain ⟨r, rfl, -⟩ := suc_of (show 0 < q by omega)
          have rows := S.2.2.1 m (by omega) pm
          rw [step (r + 1) _ _ _ σ s S (Nat.le_refl _) rows.2.2.2.1 rows.2.2.2.2, Int32.add_zero]
          by_cases q : top ≤ s.1
          · rw [if_pos q, stop r σ s S]
            refine ⟨σ, rfl, Fr_rf, ?_⟩
            have b := RM_bound (p := p) (h := h) (ice := ice) (wy := wy) (my := my) (fr := fr) (to := to) T lf0 (d := d) (m := m + 1) (f := f) (s := s) (by omega) lf ms (fun q h1 h2 h3 => fn q (by omega) h2 h3) (by rw [t_le] at q; omega)
            show CM δ n p h ice fr to wy my f0 f (RM (wgF δ n p h ice fr to wy) p (caF n fr to my) d (m + 1) f s) σ
            rw [b]; exact S
          · obtain ⟨σ', a1, a2, a3⟩ := none_s n6 w3 hm pm fm lf ms fn ow ihg S hv
            rw [if_neg q, bd_s a1, stop r σ' _ a3]
            exact ⟨σ', rfl, a2, a3⟩
        | succ j jh =>
          intro b fu s σ hb hfu S hv
          unfold fbF
          by_cases cb : caF n fr to my m b f0 = true
          · obtain ⟨q, rfl, -⟩ := suc_of (show 0 < fu by omega)
            have rows := S.2.2.1 m (by omega) pm
            have cl := ctP_lt (q := fun b => caF n fr to my m b f0) (show b < 72 by omega) cb
            have ce : ctP (fun b => caF n fr to my m b f0) (b + 1) = ctP (fun b => caF n fr to my m b f0) b + 1 := ctP_t cb
            obtain ⟨r1, r2⟩ := rows.2.2.1 b (by omega) cb
            rw [step q _ _ _ σ s S (by omega) r1 r2, ← ce]
            have cr := ct_rg (h := h) (m := m) (b := b) T lf0 (by omega) (by omega)
            have ta : (top + ctF δ n h f0 m b).toInt = top.toInt + (ctF δ n h f0 m b).toInt := t_add (by omega) (by omega)
            unfold caF at cb
            simp only [Bool.and_eq_true, decide_eq_true_eq] at cb
            by_cases qt : top + ctF δ n h f0 m b ≤ s.1
            · rw [if_pos qt]
              have id : (if caF n fr to my m b f = true then RM (wgF δ n p h ice fr to wy) p (caF n fr to my) d (m + 1) (ud f m (nI b)) s else s) = s := by
                by_cases cf : caF n fr to my m b f = true
                · rw [if_pos cf]
                  have pt := Qb_put (p := p) (h := h) (m := m) (b := b) T (by omega) (by omega) lf0 lf ms fm
                  refine RM_bound (p := p) (h := h) (ice := ice) (wy := wy) (my := my) (fr := fr) (to := to) T lf0 (d := d) (m := m + 1) (f := ud f m (nI b)) (s := s) (by omega) (Lf_put lf (by omega)) (MS_tr ms (MS_put fm)) (fun q h1 h2 h3 => by unfold ud; rw [if_neg (by omega)]; exact fn q (by omega) h2 h3) ?_
                  rw [t_le, ta, tt] at qt
                  omega
                · rw [if_neg cf]
              rw [id]
              exact jh (b + 1) q s σ (by omega) (by omega) S hv
            · rw [if_neg qt]
              obtain ⟨σ', a1, a2, a3⟩ := berth_s n6 w3 t11 hwy hm pm fm lf ms fn ow ihg S hv (b := b) (by omega) cb.1 cb.2.1
              rw [bd_s a1]
              obtain ⟨σ2, d1, d2, d3⟩ := jh (b + 1) q _ σ' (by omega) (by omega) a3 (by
                by_cases cf : caF n fr to my m b f = true
                · rw [if_pos cf]; exact Int.le_trans hv (RM_ge d (m + 1) _ s)
                · rw [if_neg cf]; exact hv)
              exact ⟨σ2, d1, Fr_tr a2 d2, d3⟩
          · have ce : ctP (fun b => caF n fr to my m b f0) (b + 1) = ctP (fun b => caF n fr to my m b f0) b := ctP_n cb
            rw [← ce]
            have cf : ¬ caF n fr to my m b f = true := fun w => cb (by
              unfold caF at w ⊢
              simp only [Bool.and_eq_true, decide_eq_true_eq] at w ⊢
              exact ⟨w.1, w.2.1, ly_mo n6 (by omega) ms w.2.2⟩)
            rw [if_neg cf]
            exact jh (b + 1) fu s σ (by omega) (by omega) S hv
      obtain ⟨σ', a1, a2, a3⟩ := loop 72 0 FU s σ (by omega) (by unfold FU; omega) S hv
      refine ⟨σ', ?_, a2, a3⟩
      show f6_tryMill_b (f6_tryMill g) σ 78 (nI (ctP p m)) = _
      unfold f6_tryMill_b
      have tp := tops_l (f6_tryMill g) V n6 S (nI (ctP p m)) (ltD (tmF δ n h f0 (fun m b => caF n fr to my m b f0)) p d (m + 1)) n 0 FU (by omega) (by unfold FU; omega)
      have tp0 : f6_tryMill_p29 (f6_tryMill g) FU σ 78 (nI (ctP p m)) (ltD (tmF δ n h f0 (fun m b => caF n fr to my m b f0)) p d (m + 1)) 0 = f6_tryMill_p67 (f6_tryMill g) FU σ 78 (nI (ctP p m)) top 0 := by
        rw [← ht, ← tp]
        show _ = f6_tryMill_p29 (f6_tryMill g) FU σ 78 (nI (ctP p m)) (ltD (tmF δ n h f0 (fun m b => caF n fr to my m b f0)) p d (m + 1) + 0) 0
        rw [Int32.add_zero]
      rw [gd_t (oL78 L), S.2.1.1, if_pos (nI_lt l3 (by omega)), if_pos (show nI (ctP p m) < 3 from nI_lt (b := 3) (by omega) (by decide)), lt_b, rL78_8 L, gd_t nz_s, gd_t (oL90 L), nI_1, gd_t (inb_n (lL90 L) (by omega) (by decide)), ix_n (by omega), y9, lt_b, tp0]
      exact a1
    · obtain ⟨σ', a1, a2, a3⟩ := ih (m + 1) fuel f s σ (by omega) (by rw [ctP_n pm]; exact hf) S (fun q h1 h2 h3 => fn q (by omega) h2 h3) lf ms ow hv
      refine ⟨σ', ?_, a2, by rw [RM_n pm]; exact a3⟩
      rw [ctP_n pm] at a1
      exact a1
