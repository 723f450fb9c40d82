/-! WHAT RULES SAY, in the reference -/
theorem RiX_Fr {W : Nat → Nat → Prop} {δ σ τ : St} {n : Nat → Nat} (h : Fr W σ τ) (L : Lay σ) (hw : ∀ x k, 120 ≤ x ∧ x ≤ 130 → ¬ W x k) (R : RiX δ σ n) : RiX δ τ n := by
  have hN := L.2.2
  have e : ∀ x k, 120 ≤ x ∧ x ≤ 130 → sI τ x k = sI σ x k := fun x k hx => Fr_i h (by omega) (hw x k hx)
  intro s hs
  obtain ⟨m1, m2⟩ := R s hs
  refine ⟨by rw [e 130 _ (by omega)]; exact m1, fun i hi => ?_⟩
  obtain ⟨x1, x2, x3⟩ := m2 i hi
  exact ⟨by rw [e 128 _ (by omega)]; exact x1, by rw [e 129 _ (by omega)]; exact x2, fun C R c => TxM_cg (fun _ _ _ => rfl) (fun x k hx => e x k (by omega)) (x3 C R c)⟩
theorem TxC_uq {σ : St} {a C R C' R' : Nat} (c : TxC σ a C R) (d : TxC σ a C' R') : C = C' ∧ R = R' :=
  ⟨c.2.2.2.1.symm.trans d.2.2.2.1, (c.2.2.2.2 0 (by decide)).symm.trans (d.2.2.2.2 0 (by decide))⟩
theorem RiX_Fd {W : Nat → Nat → Prop} {δ ε σ : St} {n : Nat → Nat} (h : Fr W δ ε) (L : Lay δ) (hw : ∀ x k, fpC x → ¬ W x k) (g : gXc δ n) (R : RiX δ σ n) : RiX ε σ n := by
  have hN := L.2.2
  intro s hs
  obtain ⟨m1, m2⟩ := R s hs
  obtain ⟨-, -, hv⟩ := g s hs
  refine ⟨m1, fun i hi => ?_⟩
  obtain ⟨x1, x2, x3⟩ := m2 i hi
  obtain ⟨-, C, R, c, -⟩ := hv i hi
  have a153 := c.1.2.1
  have r45 : sR ε 45 (12 * s + i) = sR δ 45 (12 * s + i) := (h.2.2.1 45 _ (by omega) (hw _ _ (by unfold fpC; omega))).2.2
  have c' := TxC_Fr h (fun k => hw _ _ (by unfold fpC; omega)) c
  refine ⟨by rw [Fr_i h (by omega) (hw _ _ (by unfold fpC; omega))]; exact x1, by rw [Fr_i h (by omega) (hw _ _ (by unfold fpC; omega))]; exact x2, fun C' R' d => ?_⟩
  rw [r45] at d ⊢
  obtain ⟨rfl, rfl⟩ := TxC_uq c' d
  exact TxM_cg (fun q k hq => Fr_i h (ob_spec (c.2.2.1 q hq)).2.2 (hw _ _ (by unfold fpC; omega))) (fun _ _ _ => rfl) (x3 _ _ c)
theorem ti_n {s i : Nat} (h : i < 2147483648) : tiF s (nI i) = nI (12 * s + i) := by unfold tiF; rw [if_neg (nI_pos h), ix_n h]
theorem lastM {δ σ : St} (L : Lay σ) {n : Nat → Nat} (g : gXc δ n) (R : RiX δ σ n) {s : Nat} (hs : s < 2) (d k : Int32) {one oth : Int32} (h1 : isKd one) (h2 : isKd oth) (e : Nat → Int32) (he : ∀ j, j < 9 → sI σ 134 j = e j) : ∃ τ, f12_last σ 101 (tiF s (ifB δ n s d k)) (kmF one) (kmF oth) = some (lhA δ (txA δ n s d k) one oth e, τ) ∧ Fr Wla σ τ := by
  obtain ⟨n12, -, hv⟩ := g s hs
  unfold txA
  rcases ifB_or n12 (δ := δ) d k with h | ⟨i, hi, h⟩
  · rw [h, if_pos (by decide), lhA_0]
    exact ⟨σ, last_n, Fr_rf⟩
  · obtain ⟨-, C, R', c, ok⟩ := hv i hi
    rw [h, if_neg (nI_pos (by omega)), ix_n (by omega), ti_n (by omega), lhA_c c]
    exact last_s L c ok (((R s hs).2 i hi).2.2 C R' c) h1 h2 e he
/-- what the reference's words look at -/
def RR (δ σ : St) (nm p q : Nat) (n : Nat → Nat) : Prop := (VB δ ∧ gK δ p q ∧ gXc δ n) ∧ RiB δ σ ∧ RiN δ σ nm ∧ RiK δ σ p q ∧ RiX δ σ n
theorem la_m {x k : Nat} (h : x ≠ 134) (h2 : x ≠ 135) : ¬ Wla x k := by unfold Wla; omega
theorem nm_la {x k : Nat} (h : Wnm x k) : Wla x k := Or.inl h
theorem RiB_Fr {W : Nat → Nat → Prop} {δ σ τ : St} (h : Fr W σ τ) (L : Lay σ) (hw : ∀ k, ¬ W 102 k) (R : RiB δ σ) : RiB δ τ := fun b hb => by
  have hN := L.2.2
  rw [Fr_i h (by omega) (hw b)]; exact R b hb
theorem RiM_Fr {W : Nat → Nat → Prop} {δ σ τ : St} {n : Nat} (h : Fr W σ τ) (L : Lay σ) (hw : ∀ x k, x = 101 ∧ k = 5 ∨ 106 ≤ x ∧ x ≤ 113 → ¬ W x k) (R : RiM δ σ n) : RiM δ τ n := by
  have hN := L.2.2
  exact RiM_tr R (Fr_i h (by omega) (hw _ _ (Or.inl ⟨rfl, rfl⟩))) (fun a k h1 h2 _ => Fr_i h (by omega) (hw _ _ (Or.inr ⟨h1, h2⟩)))
theorem RiN_Fr {W : Nat → Nat → Prop} {δ σ τ : St} {n : Nat} (h : Fr W σ τ) (L : Lay σ) (hw : ∀ x k, x = 101 ∧ k = 5 ∨ x = 106 ∨ x = 107 → ¬ W x k) (R : RiN δ σ n) : RiN δ τ n := by
  have hN := L.2.2
  refine ⟨by rw [Fr_i h (by omega) (hw _ _ (Or.inl ⟨rfl, rfl⟩))]; exact R.1, R.2.1, fun m hm => ?_⟩
  rw [Fr_i h (by omega) (hw _ _ (Or.inr (Or.inl rfl))), Fr_i h (by omega) (hw _ _ (Or.inr (Or.inr rfl)))]
  exact R.2.2 m hm
theorem RR_Fr {W : Nat → Nat → Prop} {δ σ τ : St} {nm p q : Nat} {n : Nat → Nat} (h : Fr W σ τ) (L : Lay σ) (hw : ∀ x k, x = 101 ∧ (k = 5 ∨ k = 15 ∨ k = 19) ∨ x = 102 ∨ 106 ≤ x ∧ x ≤ 107 ∨ 114 ≤ x ∧ x ≤ 130 → ¬ W x k) (R : RR δ σ nm p q n) : RR δ τ nm p q n :=
  ⟨R.1, RiB_Fr h L (fun k => hw _ _ (by omega)) R.2.1, RiN_Fr h L (fun x k q => hw _ _ (by omega)) R.2.2.1, RiK_Fr h L (fun x k q => hw _ _ (by omega)) R.2.2.2.1, RiX_Fr h L (fun x k q => hw _ _ (by omega)) R.2.2.2.2⟩
theorem RR_la {δ σ τ : St} {nm p q : Nat} {n : Nat → Nat} (h : Fr Wla σ τ) (L : Lay σ) (R : RR δ σ nm p q n) : RR δ τ nm p q n := RR_Fr h L (fun x k q => la_m (by omega) (by omega)) R
theorem hgF_hh {δ : St} {p q : Nat} (g : gK δ p q) (d k : Int32) : Hh (hgF δ p d k) := hgF_h g d k
theorem wordOf_s {δ σ : St} (L : Lay σ) {nm p q : Nat} {n : Nat → Nat} (R : RR δ σ nm p q n) {s m b : Nat} (hs : s < 2) (hm : m < nm) (hb : b < 72) (d k : Int32) : ∃ τ, f12_wordOf σ 101 (nI s) (nI m) (nI b) d k = some (lhA δ (txA δ n s d k) 257 258 (gbF δ (hgF δ p d k) m b d 0), τ) ∧ Fr Wla σ τ := by
  obtain ⟨τ1, a1, a2, a3⟩ := names_s L R.1.1 R.2.1 R.2.2.1 hm hb (hgF_hh R.1.2.1 d k) d 0
  have L1 := Lay_Fr a2 L
  have R1 := RR_la (Fr_mo a2 (fun _ _ => nm_la)) L R
  obtain ⟨τ2, b1, b2⟩ := lastM L1 R1.1.2.2 R1.2.2.2.2 hs d k (one := 257) (oth := 258) (Or.inl rfl) (Or.inr (Or.inl rfl)) _ a3
  refine ⟨τ2, ?_, Fr_tr (Fr_mo a2 (fun _ _ => nm_la)) b2⟩
  rw [show kmF 257 = 1 by decide, show kmF 258 = 2 by decide] at b1
  unfold f12_wordOf
  rw [gd_t (oL101 L), bd_s (heightM L R.1.2.1 R.2.2.2.1 d k), bd_s a1, bd_s (textOf_s L1 hs (R.1.2.2 s hs).1 R1.2.2.2.2 d k), bd_s b1]
def skF (w : Int32) : Int32 := if w = 257 then 1 else if w = 258 then 2 else 0
theorem saysOf_s {δ σ : St} (L : Lay σ) {nm p q : Nat} {n : Nat → Nat} (R : RR δ σ nm p q n) {s m b : Nat} (hs : s < 2) (hm : m < nm) (hb : b < 72) (d k : Int32) : ∃ τ, f12_saysOf σ 101 (nI s) (nI m) (nI b) d k = some (skF (wkA δ (txA δ n s d k) (gbF δ (hgF δ p d k) m b d 0)), τ) ∧ Fr Wla σ τ := by
  obtain ⟨τ, w1, w2⟩ := wordOf_s L R hs hm hb d k
  have Lt := Lay_Fr w2 L
  have Rt := RR_la w2 L R
  have t := txA_k R.1.2.2 hs d k
  obtain ⟨n12, -, hv⟩ := R.1.2.2 s hs
  have tx := textOf_s Lt hs n12 Rt.2.2.2.2 d k
  refine ⟨τ, ?_, w2⟩
  unfold f12_saysOf
  rw [gd_t (oL101 L), bd_s w1]
  rcases wkA_or t (gbF δ (hgF δ p d k) m b d 0) with ⟨h1, h2⟩ | ⟨C, R', r, c, ok, hr, h2, h3, h4⟩
  · rw [h2, if_pos rfl, h1]; rfl
  · have hR := c.1.2.2.2.1
    have a153 := c.1.2.1
    rcases ifB_or n12 (δ := δ) d k with h | ⟨i, hi, h⟩
    · unfold txA at a153
      rw [h, if_pos (by decide)] at a153
      omega
    · have et : txA δ n s d k = sR δ 45 (12 * s + i) := by unfold txA; rw [h, if_neg (nI_pos (by omega)), ix_n (by omega)]
      have M := ((Rt.2.2.2.2 s hs).2 i hi).2.2 C R' (by rw [← et]; exact c)
      rw [h, ti_n (by omega)] at tx
      have e20 : (20 : Int32) * nI (12 * s + i) + nI r = nI (20 * (12 * s + i) + r) := by
        have : (20 : Int32) * nI (12 * s + i) = nI (20 * (12 * s + i)) := pk_mul 20 _
        rw [this, nI_add]
      rw [h2, if_neg (nI_m1 (by omega)), lt_b, rL101_26 Lt, gd_t nz_s, bd_s tx, gd_t (oL123 Lt), e20, gd_t (inb_n (lL123 Lt) (by omega) (by decide)), ix_n (by omega), (M.2.2.2 r hr).1, ← et, ← h3]
      rcases h4 with h4 | h4 <;> rw [h4] <;> rfl
theorem p46_s {σ : St} {l r : Int32} (hl : l = -1 ∨ l = 257 ∨ l = 258) (hr : r = -1 ∨ r = 257 ∨ r = 258) : f12_barredBy_p46 σ (skF l) (skF r) = some (sdF l r, σ) := by
  rcases hl with rfl | rfl | rfl <;> rcases hr with rfl | rfl | rfl <;> rfl
theorem wk3 {δ : St} {a : Nat} (t : txk δ a) (e : Nat → Int32) : wkA δ a e = -1 ∨ wkA δ a e = 257 ∨ wkA δ a e = 258 := by
  rcases wkA_or t e with ⟨h, -⟩ | ⟨_, _, _, _, _, _, _, _, h⟩
  · exact Or.inl h
  · exact Or.inr h
theorem barredBy_s {δ σ : St} (L : Lay σ) {nm p q : Nat} {n : Nat → Nat} (R : RR δ σ nm p q n) {m b : Nat} (hm : m < nm) (hb : b < 72) (d k : Int32) : ∃ τ, f12_barredBy σ 101 (nI m) (nI b) d k = some (stdF δ n p m b d k, τ) ∧ Fr Wla σ τ := by
  have hl : nI b / 12 = nI (b / 12) := n_div12 (by omega)
  have right : ∀ τ l, Fr Wla σ τ → (l = -1 ∨ l = 257 ∨ l = 258) → ∃ τ', f12_barredBy_p22 τ 101 (nI m) (nI b) d k (skF l) = some (sdF l (if 2 ≤ b / 12 then wkA δ (txA δ n 1 d k) (gbF δ (hgF δ p d k) m b d 0) else -1), τ') ∧ Fr Wla σ τ' := by
    intro τ l f hl3
    have Lt := Lay_Fr f L
    obtain ⟨τ', w1, w2⟩ := saysOf_s Lt (RR_la f L R) (s := 1) (by decide) hm hb d k
    unfold f12_barredBy_p22 f12_hasSay
    rw [if_neg (by decide), hl]
    by_cases c : 2 ≤ b / 12
    · rw [if_neg (show ¬ nI (b / 12) < 2 from nI_nlt (b := 2) c (by omega)), bd_1, if_neg (by decide), gd_t (oL101 Lt), show (1 : Int32) = nI 1 from rfl, bd_s w1, if_pos c, p46_s hl3 (wk3 (txA_k R.1.2.2 (by decide) d k) _)]
      exact ⟨τ', rfl, Fr_tr f w2⟩
    · rw [if_pos (show nI (b / 12) < 2 from nI_lt (b := 2) (by omega) (by decide)), bd_1, if_pos rfl, if_neg c, show (0 : Int32) = skF (-1) from rfl, p46_s hl3 (Or.inl rfl)]
      exact ⟨τ, rfl, f⟩
  unfold f12_barredBy f12_hasSay stdF
  rw [if_pos rfl, hl]
  by_cases c : b / 12 ≤ 3
  · obtain ⟨τ', w1, w2⟩ := saysOf_s L R (s := 0) (by decide) hm hb d k
    rw [if_pos (show nI (b / 12) ≤ 3 from nI_le (b := 3) c (by decide)), bd_1, if_neg (by decide), gd_t (oL101 L), show (0 : Int32) = nI 0 from rfl, bd_s w1, if_pos c]
    exact right τ' _ w2 (wk3 (txA_k R.1.2.2 (by decide) d k) _)
  · rw [if_neg (show ¬ nI (b / 12) ≤ 3 from nI_ge (a := 3) (by omega) (by omega)), bd_1, if_pos rfl, if_neg c]
    exact right σ (-1) Fr_rf (Or.inl rfl)
theorem isBarred_s {δ σ : St} (L : Lay σ) {nm p q : Nat} {n : Nat → Nat} (R : RR δ σ nm p q n) {m b : Nat} (hm : m < nm) (hb : b < 72) (d k : Int32) : ∃ τ, f12_isBarred σ 101 (nI m) (nI b) d k = some (if stdF δ n p m b d k &&& 3 = 0 then 0 else 1, τ) ∧ Fr Wla σ τ := by
  obtain ⟨τ, w1, w2⟩ := barredBy_s L R hm hb d k
  refine ⟨τ, ?_, w2⟩
  unfold f12_isBarred
  rw [gd_t (oL101 L), bd_s w1, some_if]
theorem zero9_l (K : St → Nat → Int32 → Int32 → Int32 → Int32 → Int32 → Option (Int32 × St)) (v1 v2 v3 v4 v5 : Int32) : ∀ (j i fuel : Nat) (σ : St), Lay σ → i + j = 9 → j < fuel → ∃ τ f, f12_wayOf_p15 K fuel σ 101 v1 v2 v3 v4 v5 (nI i) = f12_wayOf_p15 K (f + 1) τ 101 v1 v2 v3 v4 v5 (nI 9) ∧ Fr Wla σ τ ∧ (∀ k, i ≤ k → k < 9 → sI τ 134 k = 0) ∧ ∀ k, k < i → sI τ 134 k = sI σ 134 k := by
  intro j
  induction j with
  | zero =>
    intro i fuel σ L hi hf
    obtain ⟨f, rfl, -⟩ := suc_of hf
    have : i = 9 := by omega
    subst this
    exact ⟨σ, f, rfl, Fr_rf, fun k h1 h2 => absurd h2 (by omega), fun _ _ => rfl⟩
  | succ j ih =>
    intro i fuel σ L hi hf
    obtain ⟨f, rfl, hf2⟩ := suc_of hf
    obtain ⟨τ, f', w1, w2, w3, w4⟩ := ih (i + 1) f (wI σ 134 i 0) (Lay_wI L) (by omega) (by omega)
    refine ⟨τ, f', ?_, Fr_tr (Fr_wI Fr_rf (Or.inl (Or.inl rfl))) w2, fun k h1 h2 => ?_, fun k hk => ?_⟩
    · rw [f12_wayOf_p15, if_pos (show nI i < 9 from nI_lt (b := 9) (by omega) (by decide)), gd_t (oL101 L), lt_b, rL101_47 L, gd_t nz_s, gd_t (oL134 L), gd_t (inb_n (lL134 L) (by omega) (by decide)), lt_b, lt_b, ix_n (by omega), nI_1]
      exact w1
    · by_cases e : k = i
      · rw [e, w4 i (by omega), sI_w1]
      · exact w3 k (by omega) h2
    · rw [w4 k (by omega), sI_wk (by omega)]
theorem wayStepM {δ σ : St} (L : Lay σ) {nm p q s0 : Nat} {n : Nat → Nat} (R : RR δ σ nm p q n) {s : Nat} (hs : s < 2) (d k v : Int32) (hv : 0 ≤ v.toInt) (f : Nat) : ∃ τ, Fr Wla σ τ ∧ f12_wayOf_p6 (f + 1) σ 101 (nI s0) d k v (nI s) = f12_wayOf_p6 f τ 101 (nI s0) d k (mxI v (wyS δ n s d k (gsF s0 (hgF δ p d k) d))) (nI (s + 1)) := by
  obtain ⟨τ1, f1, a1, a2, a3, -⟩ := zero9_l (f12_wayOf_p6 f) (nI s0) d k v (nI s) 9 0 FU σ L (by omega) (by unfold FU; omega)
  have L1 := Lay_Fr a2 L
  have hN1 := L1.2.2
  have R1 := RR_la a2 L R
  have fr2 : Fr Wla τ1 (wI τ1 134 1 (nI s0)) := Fr_wI Fr_rf (Or.inl (Or.inl rfl))
  have R2 := RR_la fr2 L1 R1
  have hh := heightM (Lay_wI L1) R2.1.2.1 R2.2.2.2.1 d k
  generalize hhg : hgF δ p d k = hg at hh
  have fr3 : Fr Wla τ1 (wI (wI (wI τ1 134 1 (nI s0)) 134 2 hg) 134 4 d) := Fr_wI (Fr_wI fr2 (Or.inl (Or.inl rfl))) (Or.inl (Or.inl rfl))
  have R3 := RR_la fr3 L1 R1
  have L3 : Lay (wI (wI (wI τ1 134 1 (nI s0)) 134 2 hg) 134 4 d) := Lay_wI (Lay_wI (Lay_wI L1))
  have e3 : ∀ j, j < 9 → sI (wI (wI (wI τ1 134 1 (nI s0)) 134 2 hg) 134 4 d) 134 j = gsF s0 hg d j := by
    intro j hj
    unfold gsF
    have : j = 0 ∨ j = 1 ∨ j = 2 ∨ j = 3 ∨ j = 4 ∨ j = 5 ∨ j = 6 ∨ j = 7 ∨ j = 8 := by omega
    rcases this with rfl | rfl | rfl | rfl | rfl | rfl | rfl | rfl | rfl <;> simp (disch := omega) only [sI_w1, sI_wk, if_true, if_false, Nat.reduceEqDiff, a3]
  obtain ⟨τ4, b1, b2⟩ := lastM L3 R3.1.2.2 R3.2.2.2.2 hs d k (one := 261) (oth := 261) (Or.inr (Or.inr (Or.inr rfl))) (Or.inr (Or.inr (Or.inr rfl))) _ e3
  rw [show kmF 261 = 4 by decide] at b1
  have L4 := Lay_Fr b2 L3
  have R4 := RR_la b2 L3 R3
  obtain ⟨n12, -, hvv⟩ := R.1.2.2 s hs
  have tx := textOf_s L3 hs n12 R3.2.2.2.2 d k
  refine ⟨τ4, Fr_tr a2 (Fr_tr fr3 b2), ?_⟩
  rw [f12_wayOf_p6, if_pos (show nI s < 2 from nI_lt (b := 2) hs (by decide))]
  show f12_wayOf_p15 (f12_wayOf_p6 f) FU σ 101 (nI s0) d k v (nI s) (nI 0) = _
  rw [a1, f12_wayOf_p15, if_neg (by decide)]
  simp (disch := omega) only [gd_1, lt_b, bd_1, nz_s, ob_wI, inb_wI, sR_wI, sK_wI, oL101 L1, rL101_47 L1, oL134 L1, inb_n (lL134 L1), inb_k1 (lL134 L1), inb_k2 (lL134 L1), inb_k4 (lL134 L1), ix_k, nz_t, hh]
  rw [bd_s tx, bd_s b1]
  unfold f12_wayOf_p121
  rcases wyS_or R.1.2.2 hs d k (gsF s0 hg d) with ⟨h1, h2⟩ | ⟨C, R', r, c, ok, hr, h1, h3, h2, h5, h6⟩
  · rw [h1, h2, if_pos rfl, lt_b, nI_1]
    unfold mxI
    rw [if_neg (by rw [t_lt]; exact Int.not_lt.mpr hv)]
  · have hR := c.1.2.2.2.1
    have a153 := c.1.2.1
    rcases ifB_or n12 (δ := δ) d k with h | ⟨i, hi, h⟩
    · unfold txA at a153
      rw [h, if_pos (by decide)] at a153
      omega
    · have et : txA δ n s d k = sR δ 45 (12 * s + i) := by unfold txA; rw [h, if_neg (nI_pos (by omega)), ix_n (by omega)]
      have M := ((R4.2.2.2.2 s hs).2 i hi).2.2 C R' (by rw [← et]; exact c)
      have e20 : (20 : Int32) * nI (12 * s + i) + nI r = nI (20 * (12 * s + i) + r) := by
        have : (20 : Int32) * nI (12 * s + i) = nI (20 * (12 * s + i)) := pk_mul 20 _
        rw [this, nI_add]
      have rA := (M.2.2.2 r hr).2.2.2.2 (by rw [← et]; exact h3)
      rw [← et, ← h2] at rA
      rw [h1, if_neg (nI_m1 (by omega)), h, ti_n (by omega), lt_b, rL101_27 L4, gd_t nz_s, gd_t (oL124 L4), e20, gd_t (inb_n (lL124 L4) (by omega) (by decide)), ix_n (by omega), rA]
      unfold mxI
      by_cases cc : wyS δ n s d k (gsF s0 hg d) ≤ v
      · rw [if_pos cc, if_neg (Int32.not_lt.mpr cc), nI_1]
      · rw [if_neg cc, if_pos (Int32.not_le.mp cc), lt_b, nI_1]
theorem mxI_p {a b : Int32} (h : 0 ≤ a.toInt) : 0 ≤ (mxI a b).toInt := by
  unfold mxI
  by_cases c : a < b
  · rw [if_pos c]; rw [t_lt] at c; omega
  · rw [if_neg c]; exact h
theorem wayOf_s {δ σ : St} (L : Lay σ) {nm p q s0 : Nat} {n : Nat → Nat} (R : RR δ σ nm p q n) (d k : Int32) : ∃ τ, f12_wayOf σ 101 (nI s0) d k = some (wayF δ n p s0 d k, τ) ∧ Fr Wla σ τ := by
  obtain ⟨τ1, a1, a2⟩ := wayStepM (s0 := s0) L R (s := 0) (by decide) d k 0 (by decide) 2999
  obtain ⟨τ2, b1, b2⟩ := wayStepM (s0 := s0) (Lay_Fr a1 L) (RR_la a1 L R) (s := 1) (by decide) d k (mxI 0 (wyS δ n 0 d k (gsF s0 (hgF δ p d k) d))) (mxI_p (by decide)) 2998
  refine ⟨τ2, ?_, Fr_tr a1 b1⟩
  unfold f12_wayOf
  show f12_wayOf_p6 (2999 + 1) σ 101 (nI s0) d k 0 (nI 0) = _
  rw [a2]
  show f12_wayOf_p6 (2998 + 1) τ1 101 (nI s0) d k _ (nI 1) = _
  rw [b2, f12_wayOf_p6, if_neg (by decide)]
  rfl
