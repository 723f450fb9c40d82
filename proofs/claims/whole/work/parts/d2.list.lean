/-! THE CLASS LISTS what berths a mill could have -/
theorem ctP_gap {q : Nat → Bool} {a b : Nat} (h : a ≤ b) (g : ∀ k, a ≤ k → k < b → ¬ q k = true) : ctP q b = ctP q a := by
  induction b with
  | zero => have : a = 0 := by omega
            subst this; rfl
  | succ b ih =>
    by_cases e : a = b + 1
    · rw [e]
    · rw [ctP_n (g b (by omega) (by omega))]
      exact ih (by omega) (fun k h1 h2 => g k h1 (by omega))
def Wlc (l x k : Nat) : Prop := Wlh x k ∨ x = 92 ∨ x = 82 + l ∨ x = 87 + l ∨ x = 85 ∧ k = l
def rowC (δ : St) (n : Nat) (h : Int32) (f0 : Nat → Int32) (ch : Nat → Bool) (m l : Nat) (σ : St) (b0 : Nat) : Prop := ∀ b, b < b0 → ch b = true → sI σ (82 + l) (ctP ch b) = nI b ∧ sI σ (87 + l) (ctP ch b) = ctF δ n h f0 m b
theorem rowC_gap {δ : St} {n : Nat} {h : Int32} {f0 : Nat → Int32} {ch : Nat → Bool} {m l : Nat} {σ : St} {a b : Nat} (g : ∀ k, a ≤ k → k < b → ¬ ch k = true) (r : rowC δ n h f0 ch m l σ a) : rowC δ n h f0 ch m l σ b := fun k hk c => by
  by_cases e : k < a
  · exact r k e c
  · exact absurd c (g k (by omega) hk)
theorem list_in {δ : St} (Lδ : Lay δ) (V : VT δ) {n p q0 m l fr to lane : Nat} {tx : Nat → Nat} {h d k : Int32} {f0 : Nat → Int32} {my : Nat → Nat → Bool} (n6 : n ≤ 6) (g : gXc δ tx) (gk : gK δ p q0) (t11 : to ≤ 11) (hft : fr ≤ to) (t3 : to ≤ fr + 3) (hn : sI δ 2 5 = nI n) (h14 : sI δ 78 14 = h) (hm : m < n) (hl : l < 3) (hla : lane < 6) (fm : f0 m = -1)
    (hmy : ∀ b, b < 72 → (my m b = true ↔ ¬ dpF (sI δ 3 b) h < sI δ (29 + m) 0 ∧ stdF δ tx p m b d k &&& 3 = 0)) (K : St → Nat → Int32 → Int32 → Int32 → Int32 → Int32 → Int32 → Int32 → Int32 → Option (Unit × St)) :
    ∀ (j s fuel : Nat) (σ : St), s + j = to + 1 → j < fuel → fr ≤ s → Fr (Wlc l) δ σ → (∀ q, q < n → sI σ 92 q = f0 q) → rowC δ n h f0 (fun b => caF n fr to my m b f0) m l σ (12 * lane + s) →
      ∃ σ', f6_listChoices_p25 K fuel σ 78 (nI l) d k (nI fr) (nI to) (nI m) (nI (ctP (fun b => caF n fr to my m b f0) (12 * lane + s))) (nI lane) (nI s) = K σ' 78 (nI l) d k (nI fr) (nI to) (nI m) (nI (ctP (fun b => caF n fr to my m b f0) (12 * lane + to + 1))) (nI (lane + 1)) ∧
        Fr (Wlc l) δ σ' ∧ (∀ q, q < n → sI σ' 92 q = f0 q) ∧ rowC δ n h f0 (fun b => caF n fr to my m b f0) m l σ' (12 * lane + to + 1) := by
  have hN := Lδ.2.2
  have c24 : ctP (fun b => caF n fr to my m b f0) 72 ≤ 24 := by
    refine Nat.le_trans (ctP_le (r := fun b => decide (fr ≤ b % 12 ∧ b % 12 ≤ to)) (fun k w => ?_) 72) (ctP_24 fr (by omega) to (by omega) t3)
    unfold caF at w
    simp only [Bool.and_eq_true] at w
    exact w.1
  intro j
  induction j with
  | zero =>
    intro s fuel σ hs hf _ F tr ro
    obtain ⟨fu, rfl, -⟩ := suc_of hf
    have e : s = to + 1 := by omega
    subst e
    refine ⟨σ, ?_, F, tr, ro⟩
    rw [f6_listChoices_p25, if_neg (nI_gt (by omega) (by omega)), lt_b, nI_1]
    rfl
  | succ j ih =>
    intro s fuel σ hs hf hfr F tr ro
    obtain ⟨fu, rfl, -⟩ := suc_of hf
    have L := Lay_Fr F Lδ
    have b72 : 12 * lane + s < 72 := by omega
    have hr : fr ≤ (12 * lane + s) % 12 ∧ (12 * lane + s) % 12 ≤ to := by omega
    have e12 : nI lane * 12 + nI s = nI (12 * lane + s) := by
      have : nI lane * 12 = nI (lane * 12) := pk_mul lane 12
      rw [this, nI_add, Nat.mul_comm]
    have kd : ∀ τ, Fr (Wlc l) δ τ → ∀ x q, x ≤ 153 → ¬ Wlc l x q → sI τ x q = sI δ x q := fun τ f x q h1 h2 => Fr_i f (by omega) h2
    have sz : sI σ 2 5 = nI n := by rw [kd σ F _ _ (by omega) (by unfold Wlc Wlh; omega)]; exact hn
    have next : ∀ τ c, Fr (Wlc l) δ τ → (∀ q, q < n → sI τ 92 q = f0 q) → rowC δ n h f0 (fun b => caF n fr to my m b f0) m l τ (12 * lane + s + 1) → c = ctP (fun b => caF n fr to my m b f0) (12 * lane + s + 1) →
        ∃ σ', f6_listChoices_p171 K (f6_listChoices_p25 K fu) τ 78 (nI l) d k (nI fr) (nI to) (nI m) (nI c) (nI lane) (nI s) = K σ' 78 (nI l) d k (nI fr) (nI to) (nI m) (nI (ctP (fun b => caF n fr to my m b f0) (12 * lane + to + 1))) (nI (lane + 1)) ∧
        Fr (Wlc l) δ σ' ∧ (∀ q, q < n → sI σ' 92 q = f0 q) ∧ rowC δ n h f0 (fun b => caF n fr to my m b f0) m l σ' (12 * lane + to + 1) := fun τ c f t r e => by
      obtain ⟨σ', a1, a2⟩ := ih (s + 1) fu τ (by omega) (by omega) (by omega) f t r
      refine ⟨σ', ?_, a2⟩
      unfold f6_listChoices_p171
      rw [lt_b, nI_1, e]
      exact a1
    have skip : ∀ τ, Fr (Wlc l) δ τ → (∀ q, q < n → sI τ 92 q = f0 q) → rowC δ n h f0 (fun b => caF n fr to my m b f0) m l τ (12 * lane + s) → ¬ caF n fr to my m (12 * lane + s) f0 = true →
        ∃ σ', f6_listChoices_p99 K (f6_listChoices_p25 K fu) τ 78 (nI l) d k (nI fr) (nI to) (nI m) (nI (ctP (fun b => caF n fr to my m b f0) (12 * lane + s))) (nI lane) (nI s) (nI (12 * lane + s)) = K σ' 78 (nI l) d k (nI fr) (nI to) (nI m) (nI (ctP (fun b => caF n fr to my m b f0) (12 * lane + to + 1))) (nI (lane + 1)) ∧
        Fr (Wlc l) δ σ' ∧ (∀ q, q < n → sI σ' 92 q = f0 q) ∧ rowC δ n h f0 (fun b => caF n fr to my m b f0) m l σ' (12 * lane + to + 1) := fun τ f t r c => by
      have gap : ∀ q, 12 * lane + s ≤ q → q < 12 * lane + s + 1 → ¬ (fun b => caF n fr to my m b f0) q = true := fun q h1 h2 => by
        have e : q = 12 * lane + s := by omega
        rw [e]; exact c
      obtain ⟨σ', a1, a2⟩ := next τ _ f t (rowC_gap gap r) (ctP_n (q := fun b => caF n fr to my m b f0) c).symm
      refine ⟨σ', ?_, a2⟩
      unfold f6_listChoices_p99 f6_listChoices_p100
      rw [if_pos rfl]
      exact a1
    rw [f6_listChoices_p25, if_pos (nI_le (by omega) (by omega)), e12, lt_b, gd_t (oL78 L), lt_b, rL78_0 L, gd_t nz_s, lt_b, rL78_10 L, gd_t nz_s, gd_t (oL2 L), bd_s (lyingAt_s L sz n6 (oL92 L) (lL92 L)), lyF_eq tr]
    by_cases c1 : lyF f0 (nI (12 * lane + s)) n 0 = -1
    · rw [if_pos c1, lt_b, rL78_0 L, gd_t nz_s, gd_t (oL2 L), kd σ F 78 14 (by omega) (by unfold Wlc Wlh; omega), h14, bd_s (bears_s L b72 (by omega)), kd σ F 3 _ (by omega) (by unfold Wlc Wlh; omega), kd σ F (29 + m) 0 (by omega) (by unfold Wlc Wlh; omega)]
      by_cases c2 : dpF (sI δ 3 (12 * lane + s)) h < sI δ (29 + m) 0
      · rw [if_pos c2, if_pos rfl]
        exact skip σ F tr ro (fun w => by
          unfold caF at w
          simp only [Bool.and_eq_true, decide_eq_true_eq] at w
          exact ((hmy _ b72).mp w.2.1).1 c2)
      · have gX1 : gXc σ tx := gXc_Fr F Lδ (fun x q w => by unfold fpC at w; unfold Wlc Wlh; omega) g
        have gK1 : gK σ p q0 := gK_Fr F Lδ (fun a q h1 h2 => by unfold Wlc Wlh; omega) gk
        obtain ⟨τ, a1, a2⟩ := standing_s (m := m) (b := 12 * lane + s) L gK1 gX1 (by omega) b72 d k
        rw [std_Fr F Lδ g (fun x q w => by
          rcases w with w | w | w | w
          · unfold Wlc Wlh; omega
          · unfold Wlc Wlh; omega
          · unfold Wlc Wlh; omega
          · unfold fpC at w; unfold Wlc Wlh; omega) (by omega)] at a1
        have Lτ := Lay_Fr a2 L
        have Fτ : Fr (Wlc l) δ τ := Fr_tr F (Fr_mo a2 (fun _ _ w => Or.inl w))
        have hNσ := L.2.2
        have kτ : ∀ x q, x ≤ 153 → ¬ Wlh x q → sI τ x q = sI σ x q := fun x q h1 h2 => Fr_i a2 (by omega) h2
        have tr' : ∀ q, q < n → sI τ 92 q = f0 q := fun q hq => by rw [kτ _ _ (by omega) (by unfold Wlh; omega)]; exact tr q hq
        have ro' : rowC δ n h f0 (fun b => caF n fr to my m b f0) m l τ (12 * lane + s) := fun b hb c => by
          rw [kτ _ _ (by omega) (by unfold Wlh; omega), kτ _ _ (by omega) (by unfold Wlh; omega)]
          exact ro b hb c
        rw [if_neg c2, if_neg (show ¬ (1 : Int32) = 0 by decide), lt_b, rL78_1 L, gd_t nz_s, gd_t (oL35 L), bd_s a1]
        by_cases c3 : stdF δ tx p m (12 * lane + s) d k &&& 3 = 0
        · have cb : caF n fr to my m (12 * lane + s) f0 = true := by
            unfold caF
            rw [decide_eq_true hr, (hmy _ b72).mpr ⟨c2, c3⟩, decide_eq_true c1]; rfl
          have ce : ctP (fun b => caF n fr to my m b f0) (12 * lane + s + 1) = ctP (fun b => caF n fr to my m b f0) (12 * lane + s) + 1 := ctP_t (q := fun b => caF n fr to my m b f0) cb
          have cl := ctP_lt (q := fun b => caF n fr to my m b f0) b72 cb
          rw [if_pos c3]
          generalize hc : ctP (fun b => caF n fr to my m b f0) (12 * lane + s) = c at *
          obtain ⟨lc1, lc2, lc3, lc4, lc5, lc6⟩ := lay_ch Lτ hl
          have M1 : Lay (wI τ 92 m (nI (12 * lane + s))) := Lay_wI Lτ
          have M2 : Lay (wI (wI τ 92 m (nI (12 * lane + s))) (82 + l) c (nI (12 * lane + s))) := Lay_wI M1
          have F2 : Fr (Wlc l) δ (wI (wI τ 92 m (nI (12 * lane + s))) (82 + l) c (nI (12 * lane + s))) := by
            refine Fr_wI (Fr_wI Fτ ?_) ?_
            · exact Or.inl (Or.inr (Or.inl rfl))
            · exact Or.inl (Or.inr (Or.inr (Or.inl rfl)))
          have k2 := kd _ F2
          have sz2 : sI (wI (wI τ 92 m (nI (12 * lane + s))) (82 + l) c (nI (12 * lane + s))) 2 5 = nI n := by rw [k2 _ _ (by omega) (by unfold Wlc Wlh; omega)]; exact hn
          have e34 : ∀ x, x ≤ 34 → sI (wI (wI τ 92 m (nI (12 * lane + s))) (82 + l) c (nI (12 * lane + s))) x = sI δ x := fun x hx => funext fun q => k2 x q (by omega) (by unfold Wlc Wlh; omega)
          have tp := topPower_s (m := m) (h := h) M2 (rv_VT e34 V) sz2 n6 (oL92 M2) (lL92 M2) (by omega)
          rw [rv_tq (f := ud f0 m (nI (12 * lane + s))) e34 n6 hm (fun q hq => by
            rw [sI_wo (by omega)]
            unfold ud
            by_cases e : q = m
            · rw [if_pos e, e, sI_w1]
            · rw [if_neg e, sI_wk e]; exact tr' q hq)] at tp
          change _ = some (ctF δ n h f0 m (12 * lane + s), _) at tp
          let ρ : St := wI (wI (wI (wI τ 92 m (nI (12 * lane + s))) (82 + l) c (nI (12 * lane + s))) (87 + l) c (ctF δ n h f0 m (12 * lane + s))) 92 m (-1)
          have F3 : Fr (Wlc l) δ ρ := by
            refine Fr_wI (Fr_wI F2 ?_) ?_
            · exact Or.inl (Or.inr (Or.inr (Or.inr (Or.inl rfl))))
            · exact Or.inl (Or.inr (Or.inl rfl))
          have rd : ∀ x q, sI ρ x q = if x = 92 ∧ q = m then -1 else if x = 87 + l ∧ q = c then ctF δ n h f0 m (12 * lane + s) else if x = 82 + l ∧ q = c then nI (12 * lane + s) else sI τ x q := fun x q => by
            show sI (wI (wI (wI (wI τ 92 m (nI (12 * lane + s))) (82 + l) c (nI (12 * lane + s))) (87 + l) c (ctF δ n h f0 m (12 * lane + s))) 92 m (-1)) x q = _
            rw [sI_wI, sI_wI, sI_wI, sI_wI]
            by_cases q1 : x = 92 ∧ q = m
            · rw [if_pos q1, if_pos q1]
            · rw [if_neg q1, if_neg q1, if_neg q1]
          have t1 : ∀ q, q < n → sI ρ 92 q = f0 q := fun q hq => by
            rw [rd]
            by_cases e : q = m
            · rw [if_pos ⟨rfl, e⟩, e, fm]
            · rw [if_neg (fun w => e w.2), if_neg (by omega), if_neg (by omega)]; exact tr' q hq
          have r1 : rowC δ n h f0 (fun b => caF n fr to my m b f0) m l ρ (12 * lane + s + 1) := fun b hb cb' => by
            by_cases e : b = 12 * lane + s
            · rw [e, hc, rd, rd, if_neg (by omega), if_neg (by omega), if_pos ⟨rfl, rfl⟩, if_neg (by omega), if_pos ⟨rfl, rfl⟩]
              exact ⟨rfl, rfl⟩
            · have lt := ctP_lt (q := fun b => caF n fr to my m b f0) (show b < 12 * lane + s by omega) cb'
              rw [hc] at lt
              rw [rd, rd, if_neg (by omega), if_neg (by omega), if_neg (by omega), if_neg (by omega), if_neg (by omega), if_neg (by omega)]
              exact ro' b (by omega) cb'
          obtain ⟨σ', b1, b2⟩ := next ρ (c + 1) F3 t1 r1 ce.symm
          refine ⟨σ', ?_, b2⟩
          unfold f6_listChoices_p100
          have oc : ob (wI τ 92 m (nI (12 * lane + s))) (82 + l) 14 = true := lc3
          have lcc : (sK (wI τ 92 m (nI (12 * lane + s))) (82 + l)).2 = 25 := lc5
          have od : ob (wI (wI τ 92 m (nI (12 * lane + s))) (82 + l) c (nI (12 * lane + s))) (87 + l) 14 = true := lc4
          have ld : (sK (wI (wI τ 92 m (nI (12 * lane + s))) (82 + l) c (nI (12 * lane + s))) (87 + l)).2 = 25 := lc6
          have M3 : Lay (wI (wI (wI τ 92 m (nI (12 * lane + s))) (82 + l) c (nI (12 * lane + s))) (87 + l) c (ctF δ n h f0 m (12 * lane + s))) := Lay_wI M2
          have h81 : sR (wI τ 92 m (nI (12 * lane + s))) 81 l = 82 + l := lc1
          have h86 : sR (wI (wI τ 92 m (nI (12 * lane + s))) (82 + l) c (nI (12 * lane + s))) 86 l = 87 + l := lc2
          have t14 : sI (wI (wI τ 92 m (nI (12 * lane + s))) (82 + l) c (nI (12 * lane + s))) 78 14 = h := by rw [k2 _ _ (by omega) (by unfold Wlc Wlh; omega)]; exact h14
          rw [if_neg (show ¬ (1 : Int32) = 0 by decide), if_pos (show nI c < 24 from nI_lt (b := 24) (by omega) (by decide)), gd_t (oL78 Lτ), lt_b, rL78_10 Lτ, gd_t nz_s, gd_t (oL92 Lτ), gd_t (inb_n (lL92 Lτ) (by omega) (by decide)), lt_b, ix_n (k := m) (by omega), lt_b, rL78_5 M1, gd_t nz_s, gd_t (oL81 M1), gd_t (inb_n (lL81 M1) hl (by decide)), lt_b, ix_n (k := l) (by omega), h81, gd_t (nz_t (by omega)), gd_t oc, gd_t (inb_n lcc (by omega) (by decide)), lt_b, ix_n (k := c) (by omega), lt_b, rL78_7 M2, gd_t nz_s, gd_t (oL86 M2), gd_t (inb_n (lL86 M2) hl (by decide)), lt_b, h86, gd_t (nz_t (by omega)), lt_b, rL78_0 M2, gd_t nz_s]
          simp only [lt_b, rL78_10 M2]
          rw [gd_t (oL2 M2), t14, bd_s tp, gd_t od, gd_t (inb_n ld (by omega) (by decide))]
          rw [rL78_10 M3, gd_t nz_s, gd_t (oL92 M3), gd_t (inb_n (lL92 M3) (by omega) (by decide)), nI_1]
          exact b1
        · rw [if_neg c3]
          exact skip τ Fτ tr' ro' (fun w => by
            unfold caF at w
            simp only [Bool.and_eq_true, decide_eq_true_eq] at w
            exact c3 ((hmy _ b72).mp w.2.1).2)
    · rw [if_neg c1]
      exact skip σ F tr ro (fun w => by
        unfold caF at w
        simp only [Bool.and_eq_true, decide_eq_true_eq] at w
        exact c1 w.2.2)
