theorem fiF_congr {f g : Nat → Int32} {x : Int32} : ∀ j i, (∀ q, i ≤ q → q < i + j → f q = g q) → fiF f x j i = fiF g x j i := by
  intro j
  induction j with
  | zero => intro i _; rfl
  | succ j ih =>
    intro i h
    unfold fiF
    rw [h i (by omega) (by omega), ih (i + 1) (fun q h1 h2 => h q (by omega) (by omega))]
theorem gT_one {σ τ : St} {c n : Nat} (g : gT σ) (hc : c < 7) (hn8 : n ≤ 8)
    (h1 : ∀ t k, t < 7 → t ≠ c → sI τ (8 + 3 * t) k = sI σ (8 + 3 * t) k ∧ sI τ (9 + 3 * t) k = sI σ (9 + 3 * t) k ∧ sI τ (10 + 3 * t) k = sI σ (10 + 3 * t) k ∧ sI τ 103 t = sI σ 103 t)
    (h2 : ∀ t k, t < 7 → t ≠ c → k < 8 → sI τ 104 (8 * t + k) = sI σ 104 (8 * t + k) ∧ sI τ 105 (8 * t + k) = sI σ 105 (8 * t + k))
    (h3 : sI τ (8 + 3 * c) 2 = nI n) (h4 : sI τ 103 c = nI n) (h5 : TabOk n (sI τ (9 + 3 * c)) (sI τ (10 + 3 * c)))
    (h6 : ∀ k, k < 8 → sI τ 104 (8 * c + k) = sI τ (9 + 3 * c) k ∧ sI τ 105 (8 * c + k) = sI τ (10 + 3 * c) k) : gT τ := by
  have hcn : tn τ c = n := by unfold tn; rw [h3, ix_n (by omega)]
  have eT : ∀ t, t < 7 → t ≠ c → tn τ t = tn σ t := fun t ht hne => by unfold tn; rw [(h1 t 2 ht hne).1]
  constructor
  · intro t ht
    by_cases e : t = c
    · subst e; rw [hcn]; exact ⟨h3, h5⟩
    · have q := g.1 t ht
      rw [eT t ht e, (h1 t 2 ht e).1, show sI τ (9 + 3 * t) = sI σ (9 + 3 * t) from funext fun k => (h1 t k ht e).2.1, show sI τ (10 + 3 * t) = sI σ (10 + 3 * t) from funext fun k => (h1 t k ht e).2.2.1]
      exact q
  · intro t ht
    by_cases e : t = c
    · subst e; rw [hcn]; exact ⟨h4, h6⟩
    · have q := g.2 t ht
      rw [eT t ht e, (h1 t 2 ht e).2.2.2]
      refine ⟨q.1, fun k hk => ?_⟩
      rw [(h2 t k ht e hk).1, (h2 t k ht e hk).2, (h1 t k ht e).2.1, (h1 t k ht e).2.2.1]
      exact q.2 k hk
def Wp (a k : Nat) : Prop := a = 101 ∧ k = 0 ∨ fpT a k
theorem point_in {σ : St} (L : Lay σ) (g : gT σ) {c : Nat} (hc : c < 7) (x y : Int32) : ∃ r σ1 τ, f9_put σ (8 + 3 * c) x y = some (r, σ1) ∧ (r = 0 ∨ r = 1) ∧ f12_point σ1 101 (nI c) x y = some (r, τ) ∧ Fr Wp σ τ ∧ gT τ := by
  obtain ⟨hn, hok⟩ := g.1 c hc
  obtain ⟨hm, hXY⟩ := g.2 c hc
  have hT := lay_tab L hc
  have h8 := hok.1
  generalize hN : tn σ c = n at hn hok hm h8
  generalize hk : fiF (sI σ (9 + 3 * c)) x n 0 = k
  have hkn : k ≤ n := by rw [← hk]; have := fiF_le (xs := sI σ (9 + 3 * c)) (x := x) n 0; omega
  have ek : ∀ σ' : St, (∀ q, sI σ' 104 q = sI σ 104 q) → k = fiF (fun q => sI σ' 104 (8 * c + q)) x n 0 := fun σ' h' => by
    rw [← hk]
    exact fiF_congr n 0 (fun q _ hq => by rw [h', (hXY q (by omega)).1])
  have g0 : gT (wI σ 101 0 0) := (gT_Fr Fr0 L (fun a k h q => by unfold fpT at h; unfold W0 at q; omega) g).1
  have fr0 : Fr Wp σ (wI σ 101 0 0) := Fr_wI Fr_rf (Or.inl (Or.inl ⟨rfl, rfl⟩))
  rw [put_s L hc hn h8 hk.symm]
  by_cases hr : (0 ≤ x ∧ x ≤ 400) ∧ (0 ≤ y ∧ y ≤ 400)
  · rw [if_pos hr]
    have hx := r400 hr.1
    have hy := r400 hr.2
    by_cases he : k < n ∧ sI σ (9 + 3 * c) k = x
    · rw [if_pos he]
      have s104 : ∀ q, sI (wI σ (10 + 3 * c) k y) 104 q = sI σ 104 q := fun q => sI_wo (by omega) q
      refine ⟨1, wI σ (10 + 3 * c) k y, wI (wI (wI (wI σ (10 + 3 * c) k y) 101 0 0) 104 (8 * c + k) x) 105 (8 * c + k) y, rfl, Or.inr rfl, ?_, ?_, ?_⟩
      · rw [pointM_s (Lay_wI L) hc (by rw [sI_wo (by omega)]; exact hm) h8 (ek _ s104), if_pos hr, if_pos ⟨he.1, by rw [s104, (hXY k (by omega)).1]; exact he.2⟩]
      · refine Fr_wI (Fr_wI (Fr_wI (Fr_wI Fr_rf ?_) ?_) ?_) ?_ <;> exact Or.inl (by unfold Wp fpT; omega)
      · refine gT_one (n := n) g hc h8 (fun t j ht hne => ⟨?_, ?_, ?_, ?_⟩) (fun t j ht hne hj => ⟨?_, ?_⟩) ?_ ?_ ?_ (fun j hj => ⟨?_, ?_⟩)
        · rw [sI_wo (by omega), sI_wo (by omega), sI_wo (by omega), sI_wo (by omega)]
        · rw [sI_wo (by omega), sI_wo (by omega), sI_wo (by omega), sI_wo (by omega)]
        · rw [sI_wo (by omega), sI_wo (by omega), sI_wo (by omega), sI_wo (by omega)]
        · rw [sI_wo (by omega), sI_wo (by omega), sI_wo (by omega), sI_wo (by omega)]
        · rw [sI_wo (by omega), sI_ws, if_neg (by omega), sI_wo (by omega), sI_wo (by omega)]
        · rw [sI_ws, if_neg (by omega), sI_wo (by omega), sI_wo (by omega), sI_wo (by omega)]
        · rw [sI_wo (by omega), sI_wo (by omega), sI_wo (by omega), sI_wo (by omega), hn]
        · rw [sI_wo (by omega), sI_wo (by omega), sI_wo (by omega), sI_wo (by omega), hm]
        · have e9 : sI (wI (wI (wI (wI σ (10 + 3 * c) k y) 101 0 0) 104 (8 * c + k) x) 105 (8 * c + k) y) (9 + 3 * c) = sI σ (9 + 3 * c) := funext fun q => by rw [sI_wo (by omega), sI_wo (by omega), sI_wo (by omega), sI_wo (by omega)]
          rw [e9]
          exact TabOk_set hok hy (fun q => by rw [sI_wo (by omega), sI_wo (by omega), sI_wo (by omega), sI_ws])
        · rw [sI_wo (by omega), sI_ws, sI_wo (by omega), sI_wo (by omega), sI_wo (by omega), sI_wo (by omega), sI_wo (by omega), sI_wo (by omega)]
          by_cases e : j = k
          · rw [if_pos (by omega), e, he.2]
          · rw [if_neg (by omega)]; exact (hXY j hj).1
        · rw [sI_ws, sI_wo (by omega), sI_wo (by omega), sI_wo (by omega), sI_wo (by omega), sI_wo (by omega), sI_wo (by omega), sI_ws]
          by_cases e : j = k
          · rw [if_pos (by omega), if_pos e]
          · rw [if_neg (by omega), if_neg e]; exact (hXY j hj).2
    · rw [if_neg he]
      by_cases h7 : n < 8
      · rw [if_pos h7]
        obtain ⟨d, rfl⟩ : ∃ d, n = k + d := ⟨n - k, by omega⟩
        obtain ⟨τ1, a1, a2, a3, a4, a5⟩ := put94 hc x y (k := k) d FU σ L (by omega) (by unfold FU; omega)
        have L1 : Lay τ1 := Lay_Fr a2 L
        have hN153 := L.2.2
        have s1 : ∀ a q, a ≤ 153 → 101 ≤ a → sI τ1 a q = sI σ a q := fun a q ha hb => Fr_i a2 (by omega) (by unfold Wpt; omega)
        obtain ⟨τ, b1, b2, b3, b4, b5⟩ := pm142 hc x y (k := k) d FU (wI τ1 101 0 0) (Lay_wI L1) (by omega) (by unfold FU; omega)
        refine ⟨1, τ1, τ, a1, Or.inr rfl, ?_, ?_, ?_⟩
        · rw [pointM_s L1 hc (by rw [s1 103 c (by omega) (by omega)]; exact hm) h8 (ek _ (fun q => s1 104 q (by omega) (by omega))), if_pos hr, if_neg (by rw [s1 104 _ (by omega) (by omega)]; intro q; rw [(hXY k (by omega)).1] at q; exact he q), if_pos h7]
          exact b1
        · exact Fr_tr (Fr_wI (Fr_mo a2 (fun a q h => by unfold Wpt at h; unfold Wp fpT; omega)) (Or.inl (Or.inl ⟨rfl, rfl⟩))) (Fr_mo b2 (fun a q h => by unfold Wq at h; unfold Wp fpT; omega))
        · have N1 := L1.2.2
          have s2 : ∀ a q, a ≤ 153 → ¬ Wq c a q → a ≠ 101 → sI τ a q = sI τ1 a q := fun a q ha hb hc => by rw [Fr_i b2 (show a ≤ sN (wI τ1 101 0 0) by show a ≤ sN τ1; omega) hb, sI_wo hc]
          have s3 : ∀ a q, a ≤ 28 → 8 ≤ a → sI τ a q = sI τ1 a q := fun a q ha hb => s2 a q (by omega) (by unfold Wq; omega) (by omega)
          have r9 : sI τ (9 + 3 * c) = insF (sI σ (9 + 3 * c)) k (k + d) x := funext fun q => by rw [s3 _ _ (by omega) (by omega), a3]
          have r10 : sI τ (10 + 3 * c) = insF (sI σ (10 + 3 * c)) k (k + d) y := funext fun q => by rw [s3 _ _ (by omega) (by omega), a4]
          have e104 : ∀ q, sI (wI τ1 101 0 0) 104 q = sI σ 104 q := fun q => by rw [sI_wo (by omega), s1 104 q (by omega) (by omega)]
          have e105 : ∀ q, sI (wI τ1 101 0 0) 105 q = sI σ 105 q := fun q => by rw [sI_wo (by omega), s1 105 q (by omega) (by omega)]
          refine gT_one (n := k + d + 1) g hc (by omega) (fun t j ht hne => ⟨?_, ?_, ?_, ?_⟩) (fun t j ht hne hj => ⟨?_, ?_⟩) ?_ ?_ ?_ (fun j hj => ⟨?_, ?_⟩)
          · rw [s3 _ _ (by omega) (by omega)]; exact Fr_i a2 (by omega) (by unfold Wpt; omega)
          · rw [s3 _ _ (by omega) (by omega)]; exact Fr_i a2 (by omega) (by unfold Wpt; omega)
          · rw [s3 _ _ (by omega) (by omega)]; exact Fr_i a2 (by omega) (by unfold Wpt; omega)
          · rw [s2 _ _ (by omega) (by unfold Wq; omega) (by omega), s1 _ _ (by omega) (by omega)]
          · rw [b3]
            unfold insF
            rw [if_pos (by omega), e104]
          · rw [b4]
            unfold insF
            rw [if_pos (by omega), e105]
          · rw [s3 _ _ (by omega) (by omega), a5, hn, nI_1]
          · rw [b5, sI_wo (by omega), s1 _ _ (by omega) (by omega), hm, nI_1]
          · rw [r9, r10]
            exact TabOk_ins hok h7 hk.symm he hx hy
          · rw [b3, r9]
            unfold insF
            rw [e104, e104]
            by_cases q1 : j < k ∨ k + d < j
            · rw [if_pos (by omega), if_pos q1]; exact (hXY j hj).1
            · by_cases q2 : j = k
              · rw [if_neg (by omega), if_neg q1, if_pos (by omega), if_pos q2]
              · rw [if_neg (by omega), if_neg q1, if_neg (by omega), if_neg q2, show 8 * c + j - 1 = 8 * c + (j - 1) by omega]; exact (hXY (j - 1) (by omega)).1
          · rw [b4, r10]
            unfold insF
            rw [e105, e105]
            by_cases q1 : j < k ∨ k + d < j
            · rw [if_pos (by omega), if_pos q1]; exact (hXY j hj).2
            · by_cases q2 : j = k
              · rw [if_neg (by omega), if_neg q1, if_pos (by omega), if_pos q2]
              · rw [if_neg (by omega), if_neg q1, if_neg (by omega), if_neg q2, show 8 * c + j - 1 = 8 * c + (j - 1) by omega]; exact (hXY (j - 1) (by omega)).2
      · rw [if_neg h7]
        refine ⟨0, σ, wI σ 101 0 0, rfl, Or.inl rfl, ?_, fr0, g0⟩
        rw [pointM_s L hc hm h8 (ek σ (fun _ => rfl)), if_pos hr, if_neg (by intro q; rw [(hXY k (by omega)).1] at q; exact he q), if_neg h7]
  · rw [if_neg hr]
    refine ⟨0, σ, wI σ 101 0 0, rfl, Or.inl rfl, ?_, fr0, g0⟩
    rw [pointM_s L hc hm h8 (ek σ (fun _ => rfl)), if_neg hr]
theorem point_q {σ : St} (L : Lay σ) (g : gT σ) (t x y : Int32) : ∃ r σ1 τ, f11_point σ 1 t x y = some (r, σ1) ∧ f12_point σ1 101 t x y = some (r, τ) ∧ Fr Wp σ τ ∧ gT τ := by
  unfold f11_point
  rw [ck2 lt_nle]
  by_cases h : 0 ≤ t ∧ t < 7
  · rw [if_pos h]
    obtain ⟨c, hc, rfl⟩ := inN (lim := 7) rfl (by decide) h
    have hT := lay_tab L hc
    obtain ⟨r, σ1, τ, a1, a2, a3, a4, a5⟩ := point_in L g hc x y
    refine ⟨r, σ1, τ, ?_, a3, a4, a5⟩
    rw [gd_t (oL1 L), lt_b, rL1_0 L, gd_t nz_s, gd_t (oL2 L), lt_b, rL2_1 L, gd_t nz_s, gd_t (oL4 L), gd_t (inb_n (lL4 L) hc (by decide)), ix_n (by omega), lt_b, hT.1, gd_t (nz_t (by omega)), gd_t (otab L hc), bd_s a1, gd_t (by rcases a2 with rfl | rfl <;> rfl)]
  · rw [if_neg h]
    refine ⟨0, σ, wI σ 101 0 0, rfl, ?_, Fr_wI Fr_rf (Or.inl (Or.inl ⟨rfl, rfl⟩)), (gT_Fr Fr0 L (fun a k h q => by unfold fpT at h; unfold W0 at q; omega) g).1⟩
    unfold f12_point
    rw [gd_t (oL101 L), lt_b, bd_s within_s, ite_B]
    simp only [le_lt (x := t) (a := 6) (b := 7) rfl]
    rw [if_neg h]
