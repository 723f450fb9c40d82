/-! WHAT RULES SAY, in the class -/
def txk (δ : St) (a : Nat) : Prop := a = 0 ∨ ∃ C R, TxC δ a C R ∧ TxOk δ a C R
def lhA (δ : St) (a : Nat) (one oth : Int32) (e : Nat → Int32) : Int32 := if a = 0 then -1 else (lhF δ a one oth e (ix (sI δ a 6))).2
def wkA (δ : St) (a : Nat) (e : Nat → Int32) : Int32 := if lhA δ a 257 258 e < 0 then -1 else sI δ (a + 2) (ix (lhA δ a 257 258 e))
theorem lhA_0 {δ : St} {one oth : Int32} {e : Nat → Int32} : lhA δ 0 one oth e = -1 := if_pos rfl
theorem wkA_0 {δ : St} {e : Nat → Int32} : wkA δ 0 e = -1 := by unfold wkA; rw [lhA_0, if_pos (by decide)]
theorem lhA_c {δ : St} {a C R : Nat} (c : TxC δ a C R) (one oth : Int32) (e : Nat → Int32) : lhA δ a one oth e = (lhF δ a one oth e R).2 := by
  have h1 := c.1.2.1
  have h2 := c.1.2.2.2.1
  unfold lhA
  rw [if_neg (by omega), c.1.2.2.2.2, ix_n (by omega)]
theorem lhA_cg {δ : St} {a : Nat} (t : txk δ a) (one oth : Int32) {e e' : Nat → Int32} (h : ∀ s, s < 9 → e s = e' s) : lhA δ a one oth e = lhA δ a one oth e' := by
  rcases t with rfl | ⟨C, R, c, ok⟩
  · rw [lhA_0, lhA_0]
  · rw [lhA_c c, lhA_c c]
    exact (lhF_cg ok one oth h R (Nat.le_refl _)).1
theorem wkA_cg {δ : St} {a : Nat} (t : txk δ a) {e e' : Nat → Int32} (h : ∀ s, s < 9 → e s = e' s) : wkA δ a e = wkA δ a e' := by
  unfold wkA
  rw [lhA_cg t 257 258 h]
theorem lhA_or {δ : St} {a C R : Nat} (c : TxC δ a C R) (one oth : Int32) (e : Nat → Int32) : lhA δ a one oth e = -1 ∨ ∃ k, k < R ∧ lhA δ a one oth e = nI k ∧ (sI δ (a + 2) k = one ∨ sI δ (a + 2) k = oth) := by
  rw [lhA_c c]
  exact lhF_or one oth e R
theorem wkA_or {δ : St} {a : Nat} (t : txk δ a) (e : Nat → Int32) : (wkA δ a e = -1 ∧ lhA δ a 257 258 e = -1) ∨ (∃ C R k, TxC δ a C R ∧ TxOk δ a C R ∧ k < R ∧ lhA δ a 257 258 e = nI k ∧ wkA δ a e = sI δ (a + 2) k ∧ (wkA δ a e = 257 ∨ wkA δ a e = 258)) := by
  rcases t with rfl | ⟨C, R, c, ok⟩
  · exact Or.inl ⟨wkA_0, lhA_0⟩
  · have hR := c.1.2.2.2.1
    unfold wkA
    rcases lhA_or c 257 258 e with h | ⟨k, hk, h, g⟩
    · rw [h]; exact Or.inl ⟨rfl, rfl⟩
    · rw [h, if_neg (nI_pos (by omega)), ix_n (by omega)]
      exact Or.inr ⟨C, R, k, c, ok, hk, rfl, rfl, g⟩
theorem hold_a {σ : St} (L : Lay σ) {a : Nat} (t : txk σ a) (one oth : Int32) : ∃ τ, f4_lastHolding σ 35 a one oth = some (lhA σ a one oth (sI σ 58), τ) ∧ Fr Wlh σ τ ∧ ∀ k, k < 9 → sI τ 58 k = sI σ 58 k := by
  rcases t with rfl | ⟨C, R, c, ok⟩
  · exact ⟨σ, by unfold f4_lastHolding; rw [if_pos rfl, lhA_0], Fr_rf, fun _ _ => rfl⟩
  · rw [lhA_c c]
    exact hold_s L c ok one oth
theorem wordKind_a {σ : St} (L : Lay σ) {a : Nat} (t : txk σ a) : ∃ τ, f4_wordKind σ 35 a = some (wkA σ a (sI σ 58), τ) ∧ Fr Wlh σ τ ∧ ∀ k, k < 9 → sI τ 58 k = sI σ 58 k := by
  obtain ⟨τ, w1, w2, w3⟩ := hold_a L t 257 258
  refine ⟨τ, ?_, w2, w3⟩
  unfold f4_wordKind
  rcases wkA_or t (sI σ 58) with ⟨h1, h2⟩ | ⟨C, R, k, c, ok, hk, h2, h3, -⟩
  · rw [h2] at w1
    by_cases h0 : a = 0
    · rw [h0] at w1
      rw [if_pos h0, gd_t (oL35 L), bd_s w1, h1]
    · rw [if_neg h0, gd_t (oL35 L), bd_s w1, if_pos (by decide), h1]
  · have hR := c.1.2.2.2.1
    have a153 := c.1.2.1
    rw [h2] at w1
    have c' := TxC_Fr w2 (fun k q => by unfold Wlh at q; omega) c
    obtain ⟨⟨o, -, -, -, h6⟩, ⟨r0, r1, r2, r3, r4⟩, oq, lC, lR⟩ := c'
    have o2 : ob τ (a + 2) 14 = true := oq 1 (by decide)
    have e2 : sI τ (a + 2) k = sI σ (a + 2) k := Fr_i w2 (ob_spec (c.2.2.1 1 (by decide))).2.2 (by unfold Wlh; omega)
    rw [if_neg (show ¬ a = 0 by omega), gd_t (oL35 L), bd_s w1, if_neg (nI_pos (by omega)), gd_t o, lt_b, r1, gd_t (nz_t (by omega)), gd_t o2, gd_t (inb_n (lR 0 (by decide)) hk (by omega)), ix_n (by omega), e2, h3]
def fpC (x : Nat) : Prop := 60 ≤ x ∧ x ≤ 67 ∨ x = 45 ∨ 153 < x
theorem txk_Fr {W : Nat → Nat → Prop} {σ τ : St} (h : Fr W σ τ) (hw : ∀ x k, 153 < x → ¬ W x k) {a : Nat} (t : txk σ a) : txk τ a ∧ ∀ e, (∀ one oth, lhA τ a one oth e = lhA σ a one oth e) ∧ wkA τ a e = wkA σ a e := by
  rcases t with rfl | ⟨C, R, c, ok⟩
  · exact ⟨Or.inl rfl, fun e => ⟨fun _ _ => by rw [lhA_0, lhA_0], by rw [wkA_0, wkA_0]⟩⟩
  · have a153 := c.1.2.1
    have eA : ∀ q k, q < 5 → sI τ (a + 1 + q) k = sI σ (a + 1 + q) k := fun q k hq => Fr_i h (ob_spec (c.2.2.1 q hq)).2.2 (hw _ _ (by omega))
    have c' := TxC_Fr h (fun k => hw _ _ (by omega)) c
    have e2 : sI τ (a + 2) = sI σ (a + 2) := funext fun k => eA 1 k (by decide)
    have l : ∀ e one oth, lhA τ a one oth e = lhA σ a one oth e := fun e one oth => by rw [lhA_c c', lhA_c c]; exact congrArg Prod.snd ((tx_cg eA).2.2.2 one oth e R)
    refine ⟨Or.inr ⟨C, R, c', TxOk_cg eA ok⟩, fun e => ⟨l e, ?_⟩⟩
    unfold wkA
    rw [l, e2]
theorem gXc_Fr {W : Nat → Nat → Prop} {σ τ : St} {n : Nat → Nat} (h : Fr W σ τ) (L : Lay σ) (hw : ∀ x k, fpC x → ¬ W x k) (g : gXc σ n) : gXc τ n := by
  have hN := L.2.2
  intro s hs
  obtain ⟨n12, e3, hv⟩ := g s hs
  refine ⟨n12, by rw [Fr_i h (by omega) (hw _ _ (by unfold fpC; omega))]; exact e3, fun i hi => ?_⟩
  obtain ⟨v1, C, R, c, ok⟩ := hv i hi
  have r45 : sR τ 45 (12 * s + i) = sR σ 45 (12 * s + i) := (h.2.2.1 45 _ (by omega) (hw _ _ (by unfold fpC; omega))).2.2
  have a153 := c.1.2.1
  refine ⟨by rw [Fr_i h (by omega) (hw _ _ (by unfold fpC; omega))]; exact v1, C, R, ?_, ?_⟩
  · rw [r45]; exact TxC_Fr h (fun k => hw _ _ (by unfold fpC; omega)) c
  · rw [r45]; exact TxOk_cg (fun q k hq => Fr_i h (ob_spec (c.2.2.1 q hq)).2.2 (hw _ _ (by unfold fpC; omega))) ok
theorem txA_k {δ : St} {n : Nat → Nat} (g : gXc δ n) {s : Nat} (hs : s < 2) (d k : Int32) : txk δ (txA δ n s d k) := by
  obtain ⟨n12, e3, hv⟩ := g s hs
  unfold txA
  rcases ifB_or n12 (δ := δ) d k with h | ⟨i, hi, h⟩
  · rw [h, if_pos (by decide)]; exact Or.inl rfl
  · obtain ⟨v1, C, R, c, ok⟩ := hv i hi
    rw [h, if_neg (nI_pos (by omega)), ix_n (by omega)]
    exact Or.inr ⟨C, R, c, ok⟩
theorem txA_Fr {W : Nat → Nat → Prop} {σ τ : St} (h : Fr W σ τ) (L : Lay σ) (hw : ∀ x k, fpC x → ¬ W x k) (n : Nat → Nat) {s : Nat} (hs : s < 2) (d k : Int32) : txA τ n s d k = txA σ n s d k ∧ ifB τ n s d k = ifB σ n s d k := by
  have hN := L.2.2
  have e1 : sI τ (61 + 4 * s) = sI σ (61 + 4 * s) := funext fun i => Fr_i h (by omega) (hw _ _ (by unfold fpC; omega))
  have e2 : sI τ (62 + 4 * s) = sI σ (62 + 4 * s) := funext fun i => Fr_i h (by omega) (hw _ _ (by unfold fpC; omega))
  have e : ifB τ n s d k = ifB σ n s d k := by unfold ifB; rw [e1, e2]
  refine ⟨?_, e⟩
  unfold txA
  rw [e, (h.2.2.1 45 _ (by omega) (hw _ _ (by unfold fpC; omega))).2.2]
/-- BARRED as bits, of the kinds of the words of both shores -/
def sdF (l r : Int32) : Int32 := if (l = 257 ∧ r = 258) ∨ (l = 258 ∧ r = 257) then (if l = 257 then 1 else 0) + (if r = 257 then 2 else 0) + 4 else (if l = 257 then 1 else 0) + (if r = 257 then 2 else 0)
theorem p61_s {σ : St} {l r : Int32} : f4_standing_p61 σ l r = some (sdF l r, σ) := by
  unfold f4_standing_p61 f4_standing_p76 f4_standing_p89 f4_standing_p108 f4_standing_p124 f4_standing_p128 f4_standing_p129 sdF
  have n1 : ¬ (257 : Int32) = 258 := by decide
  have n2 : ¬ (258 : Int32) = 257 := by decide
  have n3 : ¬ (1 : Int32) = 0 := by decide
  by_cases l1 : l = 257
  · by_cases r1 : r = 257
    · rw [l1, r1]; simp only [lt_b, n1, n2, n3, if_true, if_false, and_false, false_and, or_self]
    · by_cases r2 : r = 258
      · rw [l1, r2]; simp only [lt_b, n1, n2, n3, if_true, if_false, and_false, false_and, or_self, and_self, or_false]
      · rw [l1]; simp only [lt_b, r1, r2, n1, n2, n3, if_true, if_false, and_false, false_and, or_self]
  · by_cases l2 : l = 258
    · by_cases r1 : r = 257
      · rw [l2, r1]; simp only [lt_b, n1, n2, n3, if_true, if_false, and_false, false_and, or_self, and_self, false_or]
      · rw [l2]; simp only [lt_b, r1, n1, n2, n3, if_true, if_false, and_false, false_and, or_self]
    · by_cases r1 : r = 257
      · rw [r1]; simp only [lt_b, l1, l2, n1, n2, n3, if_true, if_false, and_false, false_and, or_self]
      · simp only [lt_b, l1, l2, r1, n1, n2, n3, if_true, if_false, and_false, false_and, or_self]
def stdF (δ : St) (n : Nat → Nat) (p m b : Nat) (d k : Int32) : Int32 := sdF (if b / 12 ≤ 3 then wkA δ (txA δ n 0 d k) (gbF δ (hgF δ p d k) m b d 0) else -1) (if 2 ≤ b / 12 then wkA δ (txA δ n 1 d k) (gbF δ (hgF δ p d k) m b d 0) else -1)
theorem lh_C {x k : Nat} (h : fpC x) : ¬ Wlh x k := by unfold fpC at h; unfold Wlh; omega
theorem lh_X {x k : Nat} (h : 153 < x) : ¬ Wlh x k := by unfold Wlh; omega
theorem wordRule_s {σ : St} (L : Lay σ) {p q : Nat} (gk : gK σ p q) {n : Nat → Nat} (g : gXc σ n) {s m b : Nat} (hs : s < 2) (hm : m < 6) (hb : b < 72) (d k : Int32) : ∃ τ, f4_wordRule σ 35 (nI s) (nI m) (nI b) d k = some (lhA σ (txA σ n s d k) 257 258 (gbF σ (hgF σ p d k) m b d 0), τ) ∧ Fr Wlh σ τ := by
  obtain ⟨f1, v1⟩ := gbW_r (σ := σ) (h := hgF σ p d k) (m := m) (b := b) (d := d) (sk := 0)
  have L1 := Lay_Fr f1 L
  have g1 := gXc_Fr f1 L (fun x k => lh_C) g
  have eA := (txA_Fr f1 L (fun x k => lh_C) n hs d k).1
  obtain ⟨τ, w1, w2, w3⟩ := hold_a L1 (txA_k g1 hs d k) 257 258
  rw [lhA_cg (txA_k g1 hs d k) 257 258 v1, eA, (((txk_Fr f1 (fun x k => lh_X) (txA_k g hs d k)).2 _).1 _ _)] at w1
  refine ⟨τ, ?_, Fr_tr f1 w2⟩
  unfold f4_wordRule
  rw [gd_t (oL35 L), bd_s (giveBoat_s L gk hm hb d k), bd_s (inForce_s L1 g1 hs d k), eA]
  by_cases h0 : txA σ n s d k = 0
  · rw [h0] at w1
    rw [if_pos h0, bd_s w1, h0]
  · rw [if_neg h0, bd_s w1]
theorem standing_s {σ : St} (L : Lay σ) {p q : Nat} (gk : gK σ p q) {n : Nat → Nat} (g : gXc σ n) {m b : Nat} (hm : m < 6) (hb : b < 72) (d k : Int32) : ∃ τ, f4_standing σ 35 (nI m) (nI b) d k = some (stdF σ n p m b d k, τ) ∧ Fr Wlh σ τ := by
  obtain ⟨f1, v1⟩ := gbW_r (σ := σ) (h := hgF σ p d k) (m := m) (b := b) (d := d) (sk := 0)
  have gb := giveBoat_s L gk hm hb d k
  have L1 := Lay_Fr f1 L
  generalize gbW σ (hgF σ p d k) m b d 0 = σ1 at f1 v1 L1 gb
  -- a shore's word from any memory with the same names
  have one : ∀ s, s < 2 → ∀ σ2, Fr Wlh σ σ2 → (∀ j, j < 9 → sI σ2 58 j = gbF σ (hgF σ p d k) m b d 0 j) → f4_inForce σ2 35 (nI s) d k = some (txA σ n s d k, σ2) ∧ ∃ τ, f4_wordKind σ2 35 (txA σ n s d k) = some (wkA σ (txA σ n s d k) (gbF σ (hgF σ p d k) m b d 0), τ) ∧ Fr Wlh σ τ ∧ ∀ j, j < 9 → sI τ 58 j = gbF σ (hgF σ p d k) m b d 0 j := by
    intro s hs σ2 f2 v2
    have L2 := Lay_Fr f2 L
    have g2 := gXc_Fr f2 L (fun x k => lh_C) g
    have eA := (txA_Fr f2 L (fun x k => lh_C) n hs d k).1
    have t2 := txk_Fr f2 (fun x k => lh_X) (txA_k g hs d k)
    obtain ⟨τ, w1, w2, w3⟩ := wordKind_a L2 t2.1
    rw [wkA_cg t2.1 v2, (t2.2 _).2] at w1
    refine ⟨by rw [inForce_s L2 g2 hs d k, eA], τ, w1, Fr_tr f2 w2, fun j hj => by rw [w3 j hj]; exact v2 j hj⟩
  have hl : nI b / 12 = nI (b / 12) := n_div12 (by omega)
  have right : ∀ σ2 l, Fr Wlh σ σ2 → (∀ j, j < 9 → sI σ2 58 j = gbF σ (hgF σ p d k) m b d 0 j) → ∃ τ, f4_standing_p37 σ2 35 d k (nI (b / 12)) l = some (sdF l (if 2 ≤ b / 12 then wkA σ (txA σ n 1 d k) (gbF σ (hgF σ p d k) m b d 0) else -1), τ) ∧ Fr Wlh σ τ := by
    intro σ2 l f2 v2
    have L2 := Lay_Fr f2 L
    obtain ⟨i1, τ, w1, w2, -⟩ := one 1 (by decide) σ2 f2 v2
    unfold f4_standing_p37
    by_cases c : 2 ≤ b / 12
    · rw [if_neg (show ¬ nI (b / 12) < 2 from nI_nlt (b := 2) c (by omega)), if_pos c, gd_t (oL35 L2), show (1 : Int32) = nI 1 from rfl, bd_s i1]
      by_cases h0 : txA σ n 1 d k = 0
      · rw [h0] at w1
        rw [if_pos h0, bd_s w1, p61_s, h0]; exact ⟨τ, rfl, w2⟩
      · rw [if_neg h0, bd_s w1, p61_s]; exact ⟨τ, rfl, w2⟩
    · rw [if_pos (show nI (b / 12) < 2 from nI_lt (b := 2) (by omega) (by decide)), if_neg c, p61_s]; exact ⟨σ2, rfl, f2⟩
  unfold f4_standing stdF
  rw [gd_t (oL35 L), bd_s gb, bd_s laneOf_s, hl]
  by_cases c : b / 12 ≤ 3
  · obtain ⟨i1, τ, w1, w2, w3⟩ := one 0 (by decide) σ1 f1 v1
    rw [if_pos (show nI (b / 12) ≤ 3 from nI_le (b := 3) c (by decide)), show (0 : Int32) = nI 0 from rfl, bd_s i1, if_pos c]
    by_cases h0 : txA σ n 0 d k = 0
    · rw [h0] at w1
      rw [if_pos h0, bd_s w1, h0]; exact right τ _ w2 w3
    · rw [if_neg h0, bd_s w1]; exact right τ _ w2 w3
  · rw [if_neg (show ¬ nI (b / 12) ≤ 3 from nI_ge (a := 3) (by omega) (by omega)), if_neg c]
    exact right σ1 (-1) f1 v1
/-- the WAY that texts want kept -/
def wyS (δ : St) (n : Nat → Nat) (s : Nat) (d k : Int32) (e : Nat → Int32) : Int32 := if lhA δ (txA δ n s d k) 261 261 e < 0 then 0 else sI δ (txA δ n s d k + 4) (ix (lhA δ (txA δ n s d k) 261 261 e))
def mxI (a b : Int32) : Int32 := if a < b then b else a
def wayF (δ : St) (n : Nat → Nat) (p s0 : Nat) (d k : Int32) : Int32 := mxI (mxI 0 (wyS δ n 0 d k (gsF s0 (hgF δ p d k) d))) (wyS δ n 1 d k (gsF s0 (hgF δ p d k) d))
theorem wyS_or {δ : St} {n : Nat → Nat} (g : gXc δ n) {s : Nat} (hs : s < 2) (d k : Int32) (e : Nat → Int32) : (lhA δ (txA δ n s d k) 261 261 e = -1 ∧ wyS δ n s d k e = 0) ∨ (∃ C R r, TxC δ (txA δ n s d k) C R ∧ TxOk δ (txA δ n s d k) C R ∧ r < R ∧ lhA δ (txA δ n s d k) 261 261 e = nI r ∧ sI δ (txA δ n s d k + 2) r = 261 ∧ wyS δ n s d k e = sI δ (txA δ n s d k + 4) r ∧ 0 ≤ (wyS δ n s d k e).toInt ∧ (wyS δ n s d k e).toInt ≤ 6) := by
  have t := txA_k g hs d k
  unfold wyS
  generalize txA δ n s d k = a at t ⊢
  rcases t with rfl | ⟨C, R, c, ok⟩
  · rw [lhA_0]; exact Or.inl ⟨rfl, if_pos (by decide)⟩
  · have hR := c.1.2.2.2.1
    rcases lhA_or c 261 261 e with h | ⟨r, hr, h, h2⟩
    · rw [h]; exact Or.inl ⟨rfl, rfl⟩
    · have h3 : sI δ (a + 2) r = 261 := by rcases h2 with h2 | h2 <;> exact h2
      rw [h, if_neg (nI_pos (by omega)), ix_n (by omega)]
      exact Or.inr ⟨C, R, r, c, ok, hr, rfl, h3, rfl, (ok.2 r hr).2.2.2.2.2.2.2 h3⟩
theorem wayStep {σ : St} (L : Lay σ) {n : Nat → Nat} (g : gXc σ n) {s : Nat} (hs : s < 2) (d k v : Int32) (e : Nat → Int32) (he : ∀ j, j < 9 → sI σ 58 j = e j) (f : Nat) : ∃ τ, Fr Wlh σ τ ∧ (∀ j, j < 9 → sI τ 58 j = e j) ∧ f4_wayOn_p13 (f + 1) σ 35 d k v (nI s) = f4_wayOn_p13 f τ 35 d k (if lhA σ (txA σ n s d k) 261 261 e < 0 then v else mxI v (wyS σ n s d k e)) (nI (s + 1)) := by
  have t := txA_k g hs d k
  obtain ⟨τ, w1, w2, w3⟩ := hold_a L t 261 261
  rw [lhA_cg t 261 261 he] at w1
  refine ⟨τ, w2, fun j hj => by rw [w3 j hj]; exact he j hj, ?_⟩
  rw [f4_wayOn_p13, if_pos (show nI s < 2 from nI_lt (b := 2) hs (by decide)), gd_t (oL35 L), bd_s (inForce_s L g hs d k)]
  unfold f4_wayOn_p68
  rcases wyS_or g hs d k e with ⟨h1, h2⟩ | ⟨C, R, r, c, ok, hr, h1, -, h2, -⟩
  · rw [h1, if_pos (show (-1 : Int32) < 0 by decide)]
    by_cases h0 : txA σ n s d k = 0
    · rw [h0] at w1
      rw [h0] at h1
      rw [h1] at w1
      rw [if_pos h0, bd_s w1, lt_b, nI_1]
    · rw [h1] at w1
      rw [if_neg h0, bd_s w1, if_pos (by decide), lt_b, nI_1]
  · have hR := c.1.2.2.2.1
    have a153 := c.1.2.1
    have c' := TxC_Fr w2 (fun k => lh_X (by omega)) c
    obtain ⟨⟨o, -, -, -, h6⟩, ⟨r0, r1, r2, r3, r4⟩, oq, lC, lR⟩ := c'
    have o4 : ob τ (txA σ n s d k + 4) 14 = true := oq 3 (by decide)
    have e4 : sI τ (txA σ n s d k + 4) r = sI σ (txA σ n s d k + 4) r := Fr_i w2 (ob_spec (c.2.2.1 3 (by decide))).2.2 (lh_X (by omega))
    rw [h1] at w1
    rw [h1, h2, if_neg (show ¬ txA σ n s d k = 0 by omega), bd_s w1, if_neg (nI_pos (by omega)), gd_t o, lt_b, r3, gd_t (nz_t (by omega)), gd_t o4, gd_t (inb_n (lR 2 (by decide)) hr (by omega)), ix_n (by omega), e4, bd_s max_s, lt_b, nI_1, if_neg (nI_pos (by omega))]
    rfl
theorem wayOn_s {σ : St} (L : Lay σ) {p q s0 : Nat} (gk : gK σ p q) {n : Nat → Nat} (g : gXc σ n) (d k : Int32) : ∃ τ, f4_wayOn σ 35 (nI s0) d k = some (wayF σ n p s0 d k, τ) ∧ Fr Wlh σ τ := by
  obtain ⟨σ1, a1, a2, a3⟩ := giveStretch_s (s := s0) L gk d k
  have L1 := Lay_Fr a2 L
  have g1 := gXc_Fr a2 L (fun x k => lh_C) g
  obtain ⟨σ2, b2, b3, b4⟩ := wayStep L1 g1 (s := 0) (by decide) d k 0 _ a3 2999
  have L2 := Lay_Fr b2 L1
  have g2 := gXc_Fr b2 L1 (fun x k => lh_C) g1
  obtain ⟨σ3, c2, c3, c4⟩ := wayStep L2 g2 (s := 1) (by decide) d k (if lhA σ1 (txA σ1 n 0 d k) 261 261 (gsF s0 (hgF σ p d k) d) < 0 then 0 else mxI 0 (wyS σ1 n 0 d k (gsF s0 (hgF σ p d k) d))) _ b3 2998
  have f2 : Fr Wlh σ σ2 := Fr_tr a2 b2
  have same : ∀ σ', Fr Wlh σ σ' → ∀ s, s < 2 → ∀ e, lhA σ' (txA σ' n s d k) 261 261 e = lhA σ (txA σ n s d k) 261 261 e ∧ wyS σ' n s d k e = wyS σ n s d k e := by
    intro σ' f' s hs e
    have eA := (txA_Fr f' L (fun x k => lh_C) n hs d k).1
    have t := txA_k g hs d k
    have l := ((txk_Fr f' (fun x k => lh_X) t).2 e).1 261 261
    refine ⟨by rw [eA]; exact l, ?_⟩
    unfold wyS
    rw [eA, l]
    generalize txA σ n s d k = a at t l ⊢
    rcases t with rfl | ⟨C, R, c, ok⟩
    · rw [lhA_0, if_pos (by decide), if_pos (by decide)]
    · have a153 := c.1.2.1
      rw [show sI σ' (a + 4) = sI σ (a + 4) from funext fun j => Fr_i f' (ob_spec (c.2.2.1 3 (by decide))).2.2 (lh_X (by omega))]
  have one : ∀ s, s < 2 → ∀ v e, 0 ≤ v.toInt → (if lhA σ (txA σ n s d k) 261 261 e < 0 then v else mxI v (wyS σ n s d k e)) = mxI v (wyS σ n s d k e) := by
    intro s hs v e hv
    rcases wyS_or g hs d k e with ⟨h1, h2⟩ | ⟨C, R, r, c, ok, hr, h1, -⟩
    · rw [h1, if_pos (by decide), h2]
      unfold mxI
      rw [if_neg (by rw [t_lt]; exact Int.not_lt.mpr hv)]
    · have hR := c.1.2.2.2.1
      rw [h1, if_neg (nI_pos (by omega))]
  refine ⟨σ3, ?_, Fr_tr f2 c2⟩
  unfold f4_wayOn
  rw [gd_t (oL35 L), bd_s a1]
  rw [(same σ1 a2 0 (by decide) _).1, (same σ1 a2 0 (by decide) _).2, one 0 (by decide) _ _ (by decide)] at b4 c4
  rw [(same σ2 f2 1 (by decide) _).1, (same σ2 f2 1 (by decide) _).2, one 1 (by decide) _ _ (by
    unfold mxI
    by_cases h : (0 : Int32) < wyS σ n 0 d k (gsF s0 (hgF σ p d k) d)
    · rw [if_pos h]; rw [t_lt] at h; exact Int.le_of_lt h
    · rw [if_neg h]; decide)] at c4
  show f4_wayOn_p13 (2999 + 1) σ1 35 d k 0 (nI 0) = _
  rw [b4]
  show f4_wayOn_p13 (2998 + 1) σ2 35 d k _ (nI 1) = _
  rw [c4, f4_wayOn_p13, if_neg (by decide)]
  rfl
