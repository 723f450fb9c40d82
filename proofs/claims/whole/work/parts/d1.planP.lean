/-! THE CLASS'S SEARCH: what stands before it -/
theorem std_Fr {W : Nat → Nat → Prop} {σ τ : St} (f : Fr W σ τ) (L : Lay σ) {n : Nat → Nat} (g : gXc σ n) (hw : ∀ x k, x = 3 ∨ 29 ≤ x ∧ x ≤ 34 ∨ 36 ≤ x ∧ x ≤ 43 ∨ fpC x → ¬ W x k) {p m b : Nat} (hm : m < 6) (d k : Int32) : stdF τ n p m b d k = stdF σ n p m b d k := by
  have hN := L.2.2
  have hg : hgF τ p d k = hgF σ p d k := (hgF_Fr f L (fun a k h1 h2 => hw a k (by omega)) p 0 d k).1
  have gb : gbF τ (hgF σ p d k) m b d 0 = gbF σ (hgF σ p d k) m b d 0 := funext fun s => by
    unfold gbF
    rw [Fr_i f (by omega) (hw 3 b (Or.inl rfl)), Fr_i f (by omega) (hw (29 + m) 0 (by omega)), Fr_i f (by omega) (hw (29 + m) 1 (by omega))]
  have one : ∀ s, s < 2 → wkA τ (txA τ n s d k) (gbF τ (hgF τ p d k) m b d 0) = wkA σ (txA σ n s d k) (gbF σ (hgF σ p d k) m b d 0) := fun s hs => by
    rw [(txA_Fr f L (fun x k q => hw x k (Or.inr (Or.inr (Or.inr q)))) n hs d k).1, hg, gb]
    exact ((txk_Fr f (fun x k q => hw x k (Or.inr (Or.inr (Or.inr (by unfold fpC; omega))))) (txA_k g hs d k)).2 _).2
  unfold stdF
  rw [one 0 (by decide), one 1 (by decide)]
theorem way_Fr {W : Nat → Nat → Prop} {σ τ : St} (f : Fr W σ τ) (L : Lay σ) {n : Nat → Nat} (g : gXc σ n) (hw : ∀ x k, 36 ≤ x ∧ x ≤ 43 ∨ fpC x → ¬ W x k) (p s0 : Nat) (d k : Int32) : wayF τ n p s0 d k = wayF σ n p s0 d k := by
  have hN := L.2.2
  have hg : hgF τ p d k = hgF σ p d k := (hgF_Fr f L (fun a k h1 h2 => hw a k (by omega)) p 0 d k).1
  have one : ∀ s, s < 2 → ∀ e, wyS τ n s d k e = wyS σ n s d k e := fun s hs e => by
    have ea := (txA_Fr f L (fun x k q => hw x k (Or.inr q)) n hs d k).1
    have lh := ((txk_Fr f (fun x k q => hw x k (Or.inr (by unfold fpC; omega))) (txA_k g hs d k)).2 e).1 261 261
    rcases wyS_or g hs d k e with ⟨h1, h2⟩ | ⟨C, R, r, c, -, hr, h1, -⟩
    · rw [h2]
      unfold wyS
      rw [ea, lh, h1, if_pos (by decide)]
    · have hR := c.1.2.2.2.1
      have a153 := c.1.2.1
      unfold wyS
      rw [ea, lh, h1, if_neg (nI_pos (by omega)), if_neg (nI_pos (by omega)), ix_n (by omega)]
      exact Fr_i f (ob_spec (c.2.2.1 3 (by decide))).2.2 (hw _ _ (Or.inr (by unfold fpC; omega)))
  unfold wayF
  rw [hg, one 0 (by decide), one 1 (by decide)]
def Wch (x k : Nat) : Prop := x = 92 ∨ x = 80 ∨ x = 78 ∧ k = 12
theorem choose_l {B : Int32} (w3 : ctP (bitP B) 6 ≤ 3) : ∀ (j m fuel : Nat) (σ : St), m + j = 6 → j < fuel → Lay σ → sI σ 78 12 = nI (ctP (bitP B) m) →
    ∃ σ', f6_chooseMills_p7 fuel σ 78 B (nI m) = some ((), σ') ∧ Fr Wch σ σ' ∧ sI σ' 78 12 = nI (ctP (bitP B) 6) ∧ (∀ q, m ≤ q → q < 6 → sI σ' 92 q = if bitP B q = true then -1 else sI σ 6 q) ∧ (∀ q, q < m → sI σ' 92 q = sI σ 92 q) ∧
      (∀ q, m ≤ q → q < 6 → bitP B q = true → sI σ' 80 (ctP (bitP B) q) = nI q) ∧ ∀ i, i < ctP (bitP B) m → sI σ' 80 i = sI σ 80 i := by
  intro j
  induction j with
  | zero =>
    intro m fuel σ hm hf L h
    obtain ⟨g, rfl, -⟩ := suc_of hf
    have e : m = 6 := by omega
    subst e
    refine ⟨σ, ?_, Fr_rf, h, fun q h1 h2 => absurd h2 (by omega), fun _ _ => rfl, fun q h1 h2 => absurd h2 (by omega), fun _ _ => rfl⟩
    rw [f6_chooseMills_p7, if_neg (by decide)]
  | succ j ih =>
    intro m fuel σ hm hf L h
    obtain ⟨g, rfl, -⟩ := suc_of hf
    have hN := L.2.2
    have L1 : Lay (wI σ 92 m (sI σ 6 m)) := Lay_wI L
    have F1 : Fr Wch σ (wI σ 92 m (sI σ 6 m)) := Fr_wI Fr_rf (Or.inl (by unfold Wch; omega))
    have w6 := ctP_mo (q := bitP B) (show m + 1 ≤ 6 by omega)
    have wm := ctP_mo (q := bitP B) (show m ≤ m + 1 by omega)
    have st : f6_chooseMills_p7 (g + 1) σ 78 B (nI m) = if bitP B m = true then f6_chooseMills_p7 g (wI (wI (wI (wI σ 92 m (sI σ 6 m)) 92 m (-1)) 80 (ctP (bitP B) m) (nI m)) 78 12 (nI (ctP (bitP B) m + 1))) 78 B (nI (m + 1)) else f6_chooseMills_p7 g (wI σ 92 m (sI σ 6 m)) 78 B (nI (m + 1)) := by
      rw [f6_chooseMills_p7, if_pos (show nI m < 6 from nI_lt (b := 6) (by omega) (by decide)), gd_t (oL78 L), lt_b, rL78_10 L, gd_t nz_s, lt_b, rL78_0 L, gd_t nz_s, gd_t (oL2 L), lt_b, rL2_3 L, gd_t nz_s, gd_t (oL6 L), gd_t (inb_n (lL6 L) (by omega) (by decide)), gd_t (oL92 L), gd_t (inb_n (lL92 L) (by omega) (by decide)), lt_b, ix_n (k := m) (by omega), sI_wo (b := 78) (by decide), h]
      unfold f6_chooseMills_p72
      by_cases c : (B >>> (nI m &&& 31)) &&& 1 = 1
      · have cb : bitP B m = true := decide_eq_true c
        have lt := ctP_t cb
        have M1 : Lay (wI (wI σ 92 m (sI σ 6 m)) 92 m (-1)) := Lay_wI L1
        have M2 : Lay (wI (wI (wI σ 92 m (sI σ 6 m)) 92 m (-1)) 80 (ctP (bitP B) m) (nI m)) := Lay_wI M1
        rw [if_pos c, if_pos cb, if_pos (show nI (ctP (bitP B) m) < 3 from nI_lt (b := 3) (by omega) (by decide))]
        simp (disch := omega) only [gd_1, lt_b, bd_1, nz_s, ob_wI, inb_wI, sR_wI, sK_wI, oL78 L, rL78_0 L, rL78_1 L, rL78_2 L, rL78_4 L, rL78_5 L, rL78_6 L, rL78_7 L, rL78_8 L, rL78_9 L, rL78_10 L, rL78_11 L, oL80 L, inb_n (lL80 L), oL92 L, inb_n (lL92 L), ix_n, sI_wo, h, nI_1]
      · have cb : ¬ bitP B m = true := fun w => c (of_decide_eq_true w)
        rw [if_neg c, if_neg cb, lt_b, nI_1]
    by_cases cb : bitP B m = true
    · have lt := ctP_t cb
      have F2 : Fr Wch σ (wI (wI (wI (wI σ 92 m (sI σ 6 m)) 92 m (-1)) 80 (ctP (bitP B) m) (nI m)) 78 12 (nI (ctP (bitP B) m + 1))) := by
        refine Fr_wI (Fr_wI (Fr_wI F1 ?_) ?_) ?_ <;> exact Or.inl (by unfold Wch; omega)
      obtain ⟨σ', a1, a2, a3, a4, a5, a6, a7⟩ := ih (m + 1) g _ (by omega) (by omega) (Lay_Fr F2 L) (by rw [sI_w1, lt])
      refine ⟨σ', by rw [st, if_pos cb]; exact a1, Fr_tr F2 a2, a3, fun q h1 h2 => ?_, fun q hq => ?_, fun q h1 h2 h3 => ?_, fun i hi => ?_⟩
      · by_cases e : q = m
        · rw [e, a5 m (by omega), if_pos cb, sI_wo (by decide), sI_wo (by decide), sI_w1]
        · rw [a4 q (by omega) h2, sI_wo (by decide), sI_wo (by decide), sI_wo (by decide), sI_wo (by decide)]
      · rw [a5 q (by omega), sI_wo (by decide), sI_wo (by decide), sI_wk (by omega), sI_wk (by omega)]
      · by_cases e : q = m
        · rw [e, a7 _ (by omega), sI_wo (by decide), sI_w1]
        · exact a6 q (by omega) h2 h3
      · rw [a7 i (by omega), sI_wo (by decide), sI_wk (by omega), sI_wo (by decide), sI_wo (by decide)]
    · have ct := ctP_n cb
      obtain ⟨σ', a1, a2, a3, a4, a5, a6, a7⟩ := ih (m + 1) g _ (by omega) (by omega) L1 (by rw [sI_wo (by decide), ct]; exact h)
      refine ⟨σ', by rw [st, if_neg cb]; exact a1, Fr_tr F1 a2, a3, fun q h1 h2 => ?_, fun q hq => ?_, fun q h1 h2 h3 => ?_, fun i hi => ?_⟩
      · by_cases e : q = m
        · rw [e, a5 m (by omega), if_neg cb, sI_w1]
        · rw [a4 q (by omega) h2, sI_wo (by decide)]
      · rw [a5 q (by omega), sI_wk (by omega)]
      · by_cases e : q = m
        · rw [e] at h3; exact absurd h3 cb
        · exact a6 q (by omega) h2 h3
      · rw [a7 i (by omega), sI_wo (by decide)]
def Wwy (x k : Nat) : Prop := Wlh x k ∨ x = 91
/-- the ways that must be kept, and whether they are without the mills of the plan -/
theorem ways_l {δ : St} (Lδ : Lay δ) {n p q0 : Nat} {tx : Nat → Nat} {fr to : Nat} {h d k B : Int32} {f0 : Nat → Int32} {wy : Nat → Nat} (n6 : n ≤ 6) (g : gXc δ tx) (gk : gK δ p q0) (t11 : to ≤ 11) (hn : sI δ 2 5 = nI n) (h14 : sI δ 78 14 = h) (e0 : ∀ k, k < n → sI δ 92 k = f0 k) (hwy : ∀ q, wayF δ tx p q d k = nI (wy q) ∧ wy q ≤ 6) :
    ∀ (j s fuel : Nat) (v : Int32) (σ : St), s + j = to + 1 → j < fuel → fr ≤ s → Fr Wwy δ σ →
      ∃ σ' v', f6_search_p55 fuel σ 78 d k B (nI fr) (nI to) v (nI s) = f6_search_p132 σ' 78 d k B (nI fr) (nI to) v' ∧ Fr Wwy σ σ' ∧ (∀ q, s ≤ q → q ≤ to → sI σ' 91 q = nI (wy q)) ∧ (∀ q, q < s → sI σ' 91 q = sI σ 91 q) ∧
        (v' ≠ 0 ↔ v ≠ 0 ∧ ∀ q, s ≤ q → q ≤ to → wy q ≤ mostF (opF δ n f0 q h) 6) := by
  intro j
  induction j with
  | zero =>
    intro s fuel v σ hs hf hfr F
    obtain ⟨q, rfl, -⟩ := suc_of hf
    refine ⟨σ, v, ?_, Fr_rf, fun q h1 h2 => absurd h2 (by omega), fun _ _ => rfl, ⟨fun h => ⟨h, fun q h1 h2 => absurd h2 (by omega)⟩, fun h => h.1⟩⟩
    rw [f6_search_p55, if_neg (nI_gt (by omega) (by omega))]
  | succ j ih =>
    intro s fuel v σ hs hf hfr F
    obtain ⟨fu, rfl, -⟩ := suc_of hf
    have hN := Lδ.2.2
    have L := Lay_Fr F Lδ
    have gX1 : gXc σ tx := gXc_Fr F Lδ (fun x k q => by unfold fpC at q; unfold Wwy Wlh; omega) g
    have gK1 : gK σ p q0 := gK_Fr F Lδ (fun a k h1 h2 => by unfold Wwy Wlh; omega) gk
    obtain ⟨ew, hw⟩ := hwy s
    obtain ⟨τ, a1, a2⟩ := wayOn_s (s0 := s) L gK1 gX1 d k
    rw [way_Fr F Lδ g (fun x k q => by unfold fpC at q; unfold Wwy Wlh; omega), ew] at a1
    have Lτ := Lay_Fr a2 L
    have F2 : Fr Wwy σ (wI τ 91 s (nI (wy s))) := Fr_wI (Fr_mo a2 (fun _ _ h => Or.inl h)) (Or.inl (Or.inr rfl))
    have F3 := Fr_tr F F2
    have L2 : Lay (wI τ 91 s (nI (wy s))) := Lay_wI Lτ
    have k3 : ∀ x j, x ≤ 153 → ¬ Wwy x j → sI (wI τ 91 s (nI (wy s))) x j = sI δ x j := fun x j h1 h2 => Fr_i F3 (by omega) h2
    have sz : sI (wI τ 91 s (nI (wy s))) 2 5 = nI n := by rw [k3 _ _ (by omega) (by unfold Wwy Wlh; omega)]; exact hn
    have op : opF (wI τ 91 s (nI (wy s))) n (sI (wI τ 91 s (nI (wy s))) 92) s h = opF δ n f0 s h := rv_op (fun x hx => funext fun j => k3 x j (by omega) (by unfold Wwy Wlh; omega)) (fun q hq => by rw [k3 _ _ (by omega) (by unfold Wwy Wlh; omega)]; exact e0 q hq)
    have io := isOpen_s (h := h) L2 sz n6 (oL92 L2) (lL92 L2) (show s < 12 by omega) (w := wy s) (by omega)
    rw [op] at io
    have go : ∀ v1, ((v1 ≠ 0) ↔ v ≠ 0 ∧ wy s ≤ mostF (opF δ n f0 s h) 6) → ∃ σ' v', f6_search_p124 (f6_search_p55 fu) (wI τ 91 s (nI (wy s))) 78 d k B (nI fr) (nI to) (nI s) v1 = f6_search_p132 σ' 78 d k B (nI fr) (nI to) v' ∧ Fr Wwy σ σ' ∧ (∀ q, s ≤ q → q ≤ to → sI σ' 91 q = nI (wy q)) ∧ (∀ q, q < s → sI σ' 91 q = sI σ 91 q) ∧
        (v' ≠ 0 ↔ v ≠ 0 ∧ ∀ q, s ≤ q → q ≤ to → wy q ≤ mostF (opF δ n f0 q h) 6) := fun v1 hv1 => by
      obtain ⟨σ', v', b1, b2, b3, b4, b5⟩ := ih (s + 1) fu v1 _ (by omega) (by omega) (by omega) F3
      refine ⟨σ', v', ?_, Fr_tr F2 b2, fun q h1 h2 => ?_, fun q hq => ?_, ?_⟩
      · unfold f6_search_p124
        rw [lt_b, nI_1]; exact b1
      · by_cases e : q = s
        · rw [e, b4 s (by omega), sI_w1]
        · exact b3 q (by omega) h2
      · rw [b4 q (by omega), sI_wk (by omega)]
        exact Fr_i a2 (by have := L.2.2; omega) (by unfold Wlh; omega)
      · rw [b5, hv1]
        constructor
        · intro w
          refine ⟨w.1.1, fun q h1 h2 => ?_⟩
          by_cases e : q = s
          · rw [e]; exact w.1.2
          · exact w.2 q (by omega) h2
        · intro w
          exact ⟨⟨w.1, w.2 s (Nat.le_refl _) (by omega)⟩, fun q h1 h2 => w.2 q (by omega) h2⟩
    rw [f6_search_p55, if_pos (nI_le (by omega) (by omega)), if_pos (show nI s < 12 from nI_lt (b := 12) (by omega) (by decide)), gd_t (oL78 L), lt_b, rL78_9 L, gd_t nz_s, lt_b, rL78_1 L, gd_t nz_s, gd_t (oL35 L), bd_s a1, gd_t (oL91 Lτ), gd_t (inb_n (lL91 Lτ) (by omega) (by decide)), lt_b, ix_n (k := s) (by omega)]
    by_cases v0 : v = 0
    · rw [if_pos v0]
      exact go 0 ⟨fun w => absurd rfl w, fun w => absurd v0 w.1⟩
    · rw [if_neg v0, lt_b, rL78_0 L2, gd_t nz_s, lt_b, rL78_9 L2, gd_t nz_s, gd_t (oL91 L2), gd_t (inb_n (lL91 L2) (by omega) (by decide)), lt_b, rL78_10 L2, gd_t nz_s, gd_t (oL2 L2), sI_w1, k3 78 14 (by omega) (by unfold Wwy Wlh; omega), h14, bd_s io, ite_B]
      by_cases c : wy s ≤ mostF (opF δ n f0 s h) 6
      · rw [if_pos c]
        exact go 1 ⟨fun _ => ⟨v0, c⟩, fun _ => by decide⟩
      · rw [if_neg c]
        exact go 0 ⟨fun w => absurd rfl w, fun w => absurd w.2 c⟩
