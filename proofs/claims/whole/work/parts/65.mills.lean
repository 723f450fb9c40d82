/-! MILLS: made, moored, dressed -/
def gM (σ : St) (n d : Nat) : Prop := (sI σ 2 5 = nI n) ∧ (RiM σ σ n) ∧ (∀ m, m < n → sI σ 109 m = sI σ 6 m) ∧ (LO n (sI σ 6)) ∧ (∀ m, m < n → 1 ≤ (sI σ (29 + m) 0).toInt ∧ (sI σ (29 + m) 0).toInt ≤ 9 ∧ 1 ≤ (sI σ (29 + m) 1).toInt ∧ (sI σ (29 + m) 1).toInt ≤ 90 ∧ 1 ≤ (sI σ (29 + m) 2).toInt ∧ (sI σ (29 + m) 2).toInt ≤ 2000) ∧ (∀ m, n ≤ m → m < 6 → sI σ (29 + m) 3 = 0 ∧ sI σ (29 + m) 4 = 0 ∧ sI σ (29 + m) 5 = 0 ∧ sI σ (29 + m) 6 = -1 ∧ sI σ 6 m = -1 ∧ sI σ 110 m = 0 ∧ sI σ 111 m = 0 ∧ sI σ 112 m = 0) ∧ (∀ m, m < n → 0 ≤ (sI σ (29 + m) 3).toInt ∧ (sI σ (29 + m) 3).toInt ≤ 400 * d)
theorem gM.sz {σ : St} {n d : Nat} (g : gM σ n d) : sI σ 2 5 = nI n := g.1
theorem gM.ri {σ : St} {n d : Nat} (g : gM σ n d) : RiM σ σ n := g.2.1
theorem gM.li {σ : St} {n d : Nat} (g : gM σ n d) : ∀ m, m < n → sI σ 109 m = sI σ 6 m := g.2.2.1
theorem gM.lo {σ : St} {n d : Nat} (g : gM σ n d) : LO n (sI σ 6) := g.2.2.2.1
theorem gM.rg {σ : St} {n d : Nat} (g : gM σ n d) : ∀ m, m < n → 1 ≤ (sI σ (29 + m) 0).toInt ∧ (sI σ (29 + m) 0).toInt ≤ 9 ∧ 1 ≤ (sI σ (29 + m) 1).toInt ∧ (sI σ (29 + m) 1).toInt ≤ 90 ∧ 1 ≤ (sI σ (29 + m) 2).toInt ∧ (sI σ (29 + m) 2).toInt ≤ 2000 := g.2.2.2.2.1
theorem gM.nw {σ : St} {n d : Nat} (g : gM σ n d) : ∀ m, n ≤ m → m < 6 → sI σ (29 + m) 3 = 0 ∧ sI σ (29 + m) 4 = 0 ∧ sI σ (29 + m) 5 = 0 ∧ sI σ (29 + m) 6 = -1 ∧ sI σ 6 m = -1 ∧ sI σ 110 m = 0 ∧ sI σ 111 m = 0 ∧ sI σ 112 m = 0 := g.2.2.2.2.2.1
theorem gM.wr {σ : St} {n d : Nat} (g : gM σ n d) : ∀ m, m < n → 0 ≤ (sI σ (29 + m) 3).toInt ∧ (sI σ (29 + m) 3).toInt ≤ 400 * d := g.2.2.2.2.2.2
def fpM (a k : Nat) : Prop := a = 2 ∧ k = 5 ∨ a = 6 ∨ 29 ≤ a ∧ a ≤ 34 ∨ a = 101 ∧ k = 5 ∨ 106 ≤ a ∧ a ≤ 113
theorem LO_congr {n : Nat} {f g : Nat → Int32} (h : ∀ m, m < n → g m = f m) (l : LO n f) : LO n g :=
  ⟨fun m hm => by rw [h m hm]; exact l.1 m hm, fun i j hi hj e h0 => by rw [h i hi, h j hj] at e; rw [h i hi] at h0; exact l.2 i j hi hj e h0⟩
theorem gM_Fr {W : Nat → Nat → Prop} {σ τ : St} {n d : Nat} (h : Fr W σ τ) (L : Lay σ) (hw : ∀ a k, fpM a k → ¬ W a k) (g : gM σ n d) : gM τ n d := by
  have hN := L.2.2
  have e : ∀ a k, fpM a k → sI τ a k = sI σ a k := fun a k q => Fr_i h (by unfold fpM at q; omega) (hw a k q)
  have n6 := g.ri.2.1
  have eb : ∀ m k, m < 6 → sI τ (29 + m) k = sI σ (29 + m) k := fun m k hm => e _ _ (by unfold fpM; omega)
  have er : ∀ a k, 106 ≤ a → a ≤ 113 → sI τ a k = sI σ a k := fun a k h1 h2 => e _ _ (by unfold fpM; omega)
  have e6 : ∀ k, sI τ 6 k = sI σ 6 k := fun k => e _ _ (by unfold fpM; omega)
  refine ⟨by rw [e _ _ (by unfold fpM; omega)]; exact g.sz, ⟨by rw [e _ _ (by unfold fpM; omega)]; exact g.ri.1, n6, fun m hm => ?_⟩, fun m hm => ?_, LO_congr (fun m _ => e6 m) g.lo, fun m hm => ?_, fun m h1 h2 => ?_, fun m hm => ?_⟩
  · rw [er 106 _ (by omega) (by omega), er 107 _ (by omega) (by omega), er 108 _ (by omega) (by omega), er 110 _ (by omega) (by omega), er 111 _ (by omega) (by omega), er 112 _ (by omega) (by omega), er 113 _ (by omega) (by omega), eb _ _ (by omega), eb _ _ (by omega), eb _ _ (by omega), eb _ _ (by omega), eb _ _ (by omega), eb _ _ (by omega), eb _ _ (by omega)]
    exact g.ri.2.2 m hm
  · rw [er 109 _ (by omega) (by omega), e6]; exact g.li m hm
  · rw [eb _ _ (by omega), eb _ _ (by omega), eb _ _ (by omega)]; exact g.rg m hm
  · rw [er 110 _ (by omega) (by omega), er 111 _ (by omega) (by omega), er 112 _ (by omega) (by omega), e6, eb _ _ (by omega), eb _ _ (by omega), eb _ _ (by omega), eb _ _ (by omega)]; exact g.nw m h1 h2
  · rw [eb _ _ (by omega)]; exact g.wr m hm
theorem gM0 {σ : St} (L : Lay σ) {n d : Nat} (g : gM σ n d) : gM (wI σ 101 0 0) n d := gM_Fr Fr0 L (fun a k h q => by unfold fpM at h; unfold W0 at q; omega) g
def Wmi (a k : Nat) : Prop := a = 101 ∧ k = 0 ∨ fpM a k
theorem rng {lo hi x : Int32} (h : lo ≤ x ∧ x ≤ hi) : lo.toInt ≤ x.toInt ∧ x.toInt ≤ hi.toInt := ⟨t_le.mp h.1, t_le.mp h.2⟩
theorem launch_s {σ : St} (L : Lay σ) {n : Nat} (hn : sI σ 2 5 = nI n) (h6 : n ≤ 6) (a b c : Int32) : f8_launch σ 2 a b c = if n < 6 then some (nI n, wI (wI (wI (wI σ (29 + n) 0 a) (29 + n) 1 b) (29 + n) 2 c) 2 5 (nI (n + 1))) else some (-1, σ) := by
  unfold f8_launch
  rw [gd_t (oL2 L), hn]
  by_cases h : n < 6
  · have hb := lay_boat L h
    rw [if_pos h, if_pos (show nI n < 6 from nI_lt (b := 6) h (by decide)), lt_b, rL2_2 L, gd_t nz_s, gd_t (oL5 L), gd_t (inb_n (lL5 L) h (by decide)), lt_b, ix_n (by omega), hb.1, gd_t (nz_t (by omega)), gd_t (oboat L h), lt_b, lt_b, lt_b, lt_b]
    have e : sI (wI (wI (wI σ (29 + n) 0 a) (29 + n) 1 b) (29 + n) 2 c) 2 5 = nI n := by rw [sI_wo (by omega), sI_wo (by omega), sI_wo (by omega), hn]
    rw [e, nI_1, sI_w1, nI_pred]
  · rw [if_neg h, if_neg (show ¬ nI n < 6 from nI_nlt (b := 6) (by omega) (by omega))]
theorem millM_s {σ : St} (L : Lay σ) {n : Nat} (hn : sI σ 101 5 = nI n) (h6 : n ≤ 6) (a b c : Int32) : f12_mill σ 101 a b c = if ((1 ≤ a ∧ a ≤ 9) ∧ (1 ≤ b ∧ b ≤ 90) ∧ (1 ≤ c ∧ c ≤ 2000)) ∧ n < 6 then some (nI n, wI (wI (wI (wI (wI (wI (wI σ 101 0 0) 106 n a) 107 n b) 108 n c) 109 n (-1)) 113 n (-1)) 101 5 (nI (n + 1))) else some (-1, wI σ 101 0 0) := by
  have L0 : Lay (wI σ 101 0 0) := Lay_wI L
  have e5 : sI (wI σ 101 0 0) 101 5 = nI n := by rw [sI_wk (by decide), hn]
  unfold f12_mill
  rw [gd_t (oL101 L), lt_b, bd_s within_s, ite_B, bd_s within_s, ite_B, bd_s within_s, ite_B]
  by_cases h1 : 1 ≤ a ∧ a ≤ 9
  · by_cases h2 : 1 ≤ b ∧ b ≤ 90
    · by_cases h3 : 1 ≤ c ∧ c ≤ 2000
      · rw [if_pos h1, if_pos h2, if_pos h3]
        by_cases h : n < 6
        · rw [e5, if_neg (show ¬ nI n = 6 from fun q => by have := (nI_eq (a := n) (b := 6) (by omega) (by omega)).mp q; omega), if_pos ⟨⟨h1, h2, h3⟩, h⟩]
          have r : ∀ (τ : St), sI τ 101 5 = nI n → ∀ a v, a ≠ 101 → sI (wI τ a n v) 101 5 = nI n := fun τ h a v ha => by rw [sI_wo (Ne.symm ha)]; exact h
          have e6 := r _ e5 106 a (by decide)
          have e7 := r _ e6 107 b (by decide)
          have e8 := r _ e7 108 c (by decide)
          have e9 := r _ e8 109 (-1) (by decide)
          have e10 := r _ e9 113 (-1) (by decide)
          have i : ∀ (τ : St) x, Lay τ → 106 ≤ x → x ≤ 113 → ob τ x 14 = true ∧ inb τ x (nI n) = true := fun τ x Lτ q1 q2 => by
            have : x = 106 ∨ x = 107 ∨ x = 108 ∨ x = 109 ∨ x = 110 ∨ x = 111 ∨ x = 112 ∨ x = 113 := by omega
            rcases this with rfl | rfl | rfl | rfl | rfl | rfl | rfl | rfl
            · exact ⟨oL106 Lτ, inb_n (lL106 Lτ) h (by decide)⟩
            · exact ⟨oL107 Lτ, inb_n (lL107 Lτ) h (by decide)⟩
            · exact ⟨oL108 Lτ, inb_n (lL108 Lτ) h (by decide)⟩
            · exact ⟨oL109 Lτ, inb_n (lL109 Lτ) h (by decide)⟩
            · exact ⟨oL110 Lτ, inb_n (lL110 Lτ) h (by decide)⟩
            · exact ⟨oL111 Lτ, inb_n (lL111 Lτ) h (by decide)⟩
            · exact ⟨oL112 Lτ, inb_n (lL112 Lτ) h (by decide)⟩
            · exact ⟨oL113 Lτ, inb_n (lL113 Lτ) h (by decide)⟩
          have L6 : Lay (wI (wI σ 101 0 0) 106 n a) := L0
          have L7 : Lay (wI (wI (wI σ 101 0 0) 106 n a) 107 n b) := L0
          have L8 : Lay (wI (wI (wI (wI σ 101 0 0) 106 n a) 107 n b) 108 n c) := L0
          have L9 : Lay (wI (wI (wI (wI (wI σ 101 0 0) 106 n a) 107 n b) 108 n c) 109 n (-1)) := L0
          rw [lt_b, rL101_6 L0, gd_t nz_s, gd_t (i _ 106 L0 (by decide) (by decide)).1, gd_t (i _ 106 L0 (by decide) (by decide)).2, ix_n (by omega), lt_b, lt_b, rL101_7 L6, gd_t nz_s, gd_t (i _ 107 L6 (by decide) (by decide)).1, e6, gd_t (i _ 107 L6 (by decide) (by decide)).2, ix_n (by omega), lt_b, lt_b, rL101_8 L7, gd_t nz_s, gd_t (i _ 108 L7 (by decide) (by decide)).1, e7, gd_t (i _ 108 L7 (by decide) (by decide)).2, ix_n (by omega), lt_b, lt_b, rL101_9 L8, gd_t nz_s, gd_t (i _ 109 L8 (by decide) (by decide)).1, e8, gd_t (i _ 109 L8 (by decide) (by decide)).2, ix_n (by omega), lt_b, lt_b, rL101_13 L9, gd_t nz_s, gd_t (i _ 113 L9 (by decide) (by decide)).1, e9, gd_t (i _ 113 L9 (by decide) (by decide)).2, ix_n (by omega), lt_b, lt_b, e10, sI_w1, nI_1, nI_pred]
        · rw [e5, if_pos (show nI n = 6 by rw [show n = 6 by omega]; rfl), if_neg (fun q => h q.2)]
      · rw [if_pos h1, if_pos h2, if_neg h3, if_neg (fun q => h3 q.1.2.2)]
    · rw [if_pos h1, if_neg h2, if_neg (fun q => h2 q.1.2.1)]
  · rw [if_neg h1, if_neg (fun q => h1 q.1.1)]
