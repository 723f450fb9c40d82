/-! GRINDING: one order, in the class and in the reference -/
def Wgc (m : Nat) (x k : Nat) : Prop := x = 58 ∨ x = 59 ∨ x = 72 ∨ x = 75 ∨ x = 76 ∨ x = 77 ∨ x = 29 + m ∧ (k = 3 ∨ k = 4 ∨ k = 5)
def Wgm (m : Nat) (x k : Nat) : Prop := x = 134 ∨ x = 135 ∨ x = 138 ∨ x = 141 ∨ x = 142 ∨ x = 143 ∨ (x = 110 ∨ x = 111 ∨ x = 112) ∧ k = m
theorem lh_gc {m x k : Nat} (h : Wlh x k) : Wgc m x k := by unfold Wlh at h; unfold Wgc; omega
theorem la_gm {m x k : Nat} (h : Wla x k) : Wgm m x k := by unfold Wla at h; unfold Wgm; omega
/-- what an order costs a sack; how many sacks of it -/
def csF (s l : Nat) : Nat := if s = 0 then 1 + l else 6 - l
def miN (x y : Nat) : Nat := if x ≤ y then x else y
def zF (lf a r w : Nat) : Nat := miN (miN lf a) (r / w)
theorem mi_n {x y : Nat} (hx : x < 2147483648) (hy : y < 2147483648) : (if nI x ≤ nI y then nI x else nI y) = nI (miN x y) := by
  unfold miN
  by_cases c : x ≤ y
  · rw [if_pos c, if_pos (nI_le c (by omega))]
  · rw [if_neg c, if_neg (nI_ge (by omega) (by omega))]
theorem miN_le (x y : Nat) : miN x y ≤ x ∧ miN x y ≤ y := by
  unfold miN
  by_cases c : x ≤ y
  · rw [if_pos c]; omega
  · rw [if_neg c]; omega
theorem zF_le {lf a r w : Nat} : zF lf a r w ≤ lf ∧ zF lf a r w ≤ a ∧ zF lf a r w * w ≤ r := by
  have h1 := miN_le (miN lf a) (r / w)
  have h2 := miN_le lf a
  refine ⟨Nat.le_trans h1.1 h2.1, Nat.le_trans h1.1 h2.2, ?_⟩
  exact Nat.le_trans (Nat.mul_le_mul_right w h1.2) (Nat.div_mul_le_self r w)
theorem csF_b {s l : Nat} (hl : l < 6) : 1 ≤ csF s l ∧ csF s l ≤ 6 := by
  unfold csF
  by_cases c : s = 0
  · rw [if_pos c]; omega
  · rw [if_neg c]; omega
/-- up to the sacks that this order has ground -/
theorem gC1 {σ : St} (L : Lay σ) {m b e a i ro s r lf f : Nat} (hro : ro ≤ 60) (h9 : sI σ 70 9 = nI ro) (hi : i < ro) (ha : 0 < a) (ha4 : a ≤ 400) (hb : b < 72) (hs : s < 2) (h73 : sI σ 73 i = nI s) (h72 : sI σ 72 s = nI r) (hr : r ≤ 600) (h75 : sI σ 75 i = nI lf) (hlf : lf ≤ 500) :
    f3_grindOrders_p24 (f + 1) σ 70 (nI m) (nI e) (nI b) (nI (b / 12)) (nI a) (nI i) = f3_grindOrders_p85 (f3_grindOrders_p24 f) σ 70 (nI m) (nI e) (nI b) (nI (b / 12)) (nI a) (nI i) (nI s) (nI (csF s (b / 12))) (nI (r / csF s (b / 12))) := by
  have cb := csF_b (s := s) (l := b / 12) (by omega)
  have p64 : f3_grindOrders_p64 (f3_grindOrders_p24 f) σ 70 (nI m) (nI e) (nI b) (nI (b / 12)) (nI a) (nI i) (nI s) (nI (csF s (b / 12))) = f3_grindOrders_p85 (f3_grindOrders_p24 f) σ 70 (nI m) (nI e) (nI b) (nI (b / 12)) (nI a) (nI i) (nI s) (nI (csF s (b / 12))) (nI (r / csF s (b / 12))) := by
    unfold f3_grindOrders_p64
    rw [if_neg (nI_nle (by omega) (by omega)), gd_t (oL70 L), lt_b, rL70_3 L, gd_t nz_s, gd_t (oL72 L), gd_t (inb_n (lL72 L) hs (by decide)), gd_t (nz_pos (by rw [nI_toInt (by omega)]; omega)), ix_n (by omega), h72, pk_div (by omega) (by omega) (by omega)]
  rw [f3_grindOrders_p24, gd_t (oL70 L), h9, if_pos (nI_lt hi (by omega)), if_neg (nI_nle (by omega) (by omega)), lt_b, rL70_4 L, gd_t nz_s, gd_t (oL73 L), gd_t (inb_n (lL73 L) (by omega) (by decide)), lt_b, ix_n (by omega), h73]
  by_cases c : s = 0
  · have e1 : (1 : Int32) + nI (b / 12) = nI (csF s (b / 12)) := by unfold csF; rw [if_pos c]; exact nI_add 1 _
    rw [if_pos (by rw [c]; rfl), e1, p64]
  · have e6 : (6 : Int32) - nI (b / 12) = nI (csF s (b / 12)) := by unfold csF; rw [if_neg c]; exact pk_sub (a := 6) (by omega)
    rw [if_neg (nI_ne0 (by omega) (by omega)), e6, p64]
theorem gM1 {ρ : St} (L : Lay ρ) {m b a c i ro s r lf f : Nat} (hm : m < 6) (hro : ro ≤ 60) (h9 : sI ρ 101 55 = nI ro) (hi : i < ro) (ha : 0 < a) (ha4 : a ≤ 400) (hb : b < 72) (hat : sI ρ 109 m = nI b) (hs : s < 2) (h73 : sI ρ 139 i = nI s) (h72 : sI ρ 138 s = nI r) (hr : r ≤ 600) (h75 : sI ρ 141 i = nI lf) (hlf : lf ≤ 500) :
    f12_grinds_p15 (f + 1) ρ 101 (nI m) (nI a) (nI c) (nI i) = f12_grinds_p63 (f12_grinds_p15 f) ρ 101 (nI m) (nI a) (nI c) (nI i) (nI s) (nI (csF s (b / 12)) - 1) 1 ∧ (1 : Int32) + (nI (csF s (b / 12)) - 1) = nI (csF s (b / 12)) := by
  have cb := csF_b (s := s) (l := b / 12) (by omega)
  have e0 : (1 : Int32) + (nI (csF s (b / 12)) - 1) = nI (csF s (b / 12)) := by rw [Int32.add_comm, Int32.sub_add_cancel]
  refine ⟨?_, e0⟩
  rw [f12_grinds_p15, gd_t (oL101 L), h9, if_pos (nI_lt hi (by omega)), if_neg (nI_nle (by omega) (by omega)), lt_b, rL101_56 L, gd_t nz_s, gd_t (oL139 L), gd_t (inb_n (lL139 L) (by omega) (by decide)), lt_b, ix_n (k := i) (by omega), h73, lt_b, rL101_9 L, gd_t nz_s, gd_t (oL109 L), gd_t (inb_n (lL109 L) hm (by decide)), lt_b, ix_n (k := m) (by omega), hat, n_div12 (by omega)]
  by_cases c : s = 0
  · have e1 : nI (csF s (b / 12)) - 1 = nI (b / 12) := by unfold csF; rw [if_pos c, Nat.add_comm]; exact nI_pred _
    rw [if_pos (by rw [c]; rfl), e1]
  · have e6 : nI (csF s (b / 12)) - 1 = 5 - nI (b / 12) := by
      unfold csF
      rw [if_neg c]
      have x1 : (5 : Int32) - nI (b / 12) = nI (5 - b / 12) := pk_sub (a := 5) (by omega)
      have x2 : nI (6 - b / 12) - 1 = nI (6 - b / 12 - 1) := pk_sub (b := 1) (by omega)
      rw [x1, x2, show 6 - b / 12 - 1 = 5 - b / 12 by omega]
    rw [if_neg (nI_ne0 (by omega) (by omega)), e6]
def up (f : Nat → Int32) (k : Nat) (v : Int32) (j : Nat) : Int32 := if j = k then v else f j
theorem up_w (σ : St) (a k : Nat) (v : Int32) (j : Nat) : sI (wI σ a k v) a j = up (sI σ a) k v j := sI_ws σ a k v j
theorem gC2 {σ τ0 : St} (L : Lay σ) (f0 : Fr Wlh σ τ0) {m b e a i ro s r lf f z : Nat} {T : Int32} (hm : m < 6) (hro : ro ≤ 60) (hi : i < ro) (hs : s < 2) (hz : z = zF lf a r (csF s (b / 12))) (hz0 : 0 < z) (ha4 : a ≤ 400) (hb : b < 72) (h72 : sI σ 72 s = nI r) (hr : r ≤ 600) (h75 : sI σ 75 i = nI lf) (hlf : lf ≤ 500) (ht : f4_tollFor σ 35 (nI z) (nI s) (sI σ 74 i) (nI m) (nI b) (nI e) = some (T, τ0)) :
    ∃ σ2, f3_grindOrders_p85 (f3_grindOrders_p24 f) σ 70 (nI m) (nI e) (nI b) (nI (b / 12)) (nI a) (nI i) (nI s) (nI (csF s (b / 12))) (nI (r / csF s (b / 12))) = f3_grindOrders_p24 f σ2 70 (nI m) (nI e) (nI b) (nI (b / 12)) (nI (a - z)) (nI (i + 1)) ∧ Fr (Wgc m) σ σ2 ∧
      (∀ j, sI σ2 72 j = up (sI σ 72) s (nI (r - z * csF s (b / 12))) j) ∧ (∀ j, sI σ2 75 j = up (sI σ 75) i (nI (lf - z)) j) ∧ (∀ j, sI σ2 76 j = up (sI σ 76) i (sI σ 76 i + T) j) ∧ (∀ j, sI σ2 77 j = up (sI σ 77) i (if lf - z = 0 then nI e else -1) j) ∧
      sI σ2 (29 + m) 3 = sI σ (29 + m) 3 + nI z ∧ sI σ2 (29 + m) 4 = sI σ (29 + m) 4 + nI z ∧ sI σ2 (29 + m) 5 = sI σ (29 + m) 5 + T := by
  have cb := csF_b (s := s) (l := b / 12) (by omega)
  have hN := L.2.2
  have L0 := Lay_Fr f0 L
  have zl := zF_le (lf := lf) (a := a) (r := r) (w := csF s (b / 12))
  rw [← hz] at zl
  have hb5 := lay_boat L0 hm
  have ob5 := oboat L0 hm
  have e0 : ∀ x j, x ≤ 153 → x ≠ 58 → x ≠ 59 → sI τ0 x j = sI σ x j := fun x j h1 h2 h3 => Fr_i f0 (by omega) (by unfold Wlh; omega)
  have zw : nI z * nI (csF s (b / 12)) = nI (z * csF s (b / 12)) := pk_mul _ _
  have s1 : nI r - nI (z * csF s (b / 12)) = nI (r - z * csF s (b / 12)) := pk_sub zl.2.2
  have s2 : nI lf - nI z = nI (lf - z) := pk_sub zl.1
  have s3 : nI a - nI z = nI (a - z) := pk_sub zl.2.1
  have dn : ∀ v, v = (if lf - z = 0 then nI e else -1) → ∃ σ2, f3_grindOrders_p202 (f3_grindOrders_p24 f) (wI (wI (wI τ0 72 s (nI (r - z * csF s (b / 12)))) 75 i (nI (lf - z))) 76 i (sI σ 76 i + T)) 70 (nI m) (nI e) (nI b) (nI (b / 12)) (nI (a - z)) (nI i) (nI z) T v (nI i) 77 = f3_grindOrders_p24 f σ2 70 (nI m) (nI e) (nI b) (nI (b / 12)) (nI (a - z)) (nI (i + 1)) ∧ Fr (Wgc m) σ σ2 ∧
      (∀ j, sI σ2 72 j = up (sI σ 72) s (nI (r - z * csF s (b / 12))) j) ∧ (∀ j, sI σ2 75 j = up (sI σ 75) i (nI (lf - z)) j) ∧ (∀ j, sI σ2 76 j = up (sI σ 76) i (sI σ 76 i + T) j) ∧ (∀ j, sI σ2 77 j = up (sI σ 77) i (if lf - z = 0 then nI e else -1) j) ∧
      sI σ2 (29 + m) 3 = sI σ (29 + m) 3 + nI z ∧ sI σ2 (29 + m) 4 = sI σ (29 + m) 4 + nI z ∧ sI σ2 (29 + m) 5 = sI σ (29 + m) 5 + T := by
    intro v hv
    refine ⟨wI (wI (wI (wI (wI (wI (wI τ0 72 s (nI (r - z * csF s (b / 12)))) 75 i (nI (lf - z))) 76 i (sI σ 76 i + T)) 77 i v) (29 + m) 3 (sI σ (29 + m) 3 + nI z)) (29 + m) 4 (sI σ (29 + m) 4 + nI z)) (29 + m) 5 (sI σ (29 + m) 5 + T), ?_, ?_, fun j => ?_, fun j => ?_, fun j => ?_, fun j => ?_, ?_, ?_, ?_⟩
    · unfold f3_grindOrders_p202 f3_grindOrders_p219 f0_grindSacks
      simp (disch := omega) only [gd_1, lt_b, bd_1, nz_s, ob_wI, inb_wI, sR_wI, sK_wI, oL70 L0, rL70_0 L0, oL2 L0, rL2_2 L0, oL77 L0, inb_n (lL77 L0), oL5 L0, inb_n (lL5 L0), nz_t, ix_n, hb5.1, ob5, sI_wo, sI_wk, e0, nI_1]
    · refine Fr_wI (Fr_wI (Fr_wI (Fr_wI (Fr_wI (Fr_wI (Fr_wI (Fr_mo f0 (fun _ _ => lh_gc)) ?_) ?_) ?_) ?_) ?_) ?_) ?_ <;> exact Or.inl (by unfold Wgc; omega)
    · simp (disch := omega) only [sI_wo]; rw [up_w]; unfold up; rw [e0 72 j (by omega) (by omega) (by omega)]
    · simp (disch := omega) only [sI_wo]; rw [up_w]; unfold up; rw [sI_wo (by omega), e0 75 j (by omega) (by omega) (by omega)]
    · simp (disch := omega) only [sI_wo]; rw [up_w]; unfold up; rw [sI_wo (by omega), sI_wo (by omega), e0 76 j (by omega) (by omega) (by omega)]
    · simp (disch := omega) only [sI_wo]; rw [up_w]; unfold up; rw [sI_wo (by omega), sI_wo (by omega), sI_wo (by omega), e0 77 j (by omega) (by omega) (by omega), hv]
    · simp (disch := omega) only [sI_wk, sI_w1]
    · simp (disch := omega) only [sI_wk, sI_w1]
    · simp (disch := omega) only [sI_wk, sI_w1]
  unfold f3_grindOrders_p85
  rw [gd_t (oL70 L), lt_b, rL70_6 L, gd_t nz_s, gd_t (oL75 L), gd_t (inb_n (lL75 L) (by omega) (by decide)), ix_n (k := i) (by omega), h75, bd_s min_s, mi_n (by omega) (by omega), bd_s min_s, mi_n (by have := miN_le lf a; omega) (by have := Nat.div_le_self r (csF s (b / 12)); omega), show miN (miN lf a) (r / csF s (b / 12)) = z from hz.symm, if_neg (nI_nle (by omega) (by omega)), lt_b, rL70_1 L, gd_t nz_s, lt_b, rL70_5 L, gd_t nz_s, gd_t (oL74 L), gd_t (inb_n (lL74 L) (by omega) (by decide)), gd_t (oL35 L), bd_s ht, lt_b, s3]
  simp (disch := omega) only [gd_1, lt_b, bd_1, nz_s, ob_wI, inb_wI, sR_wI, sK_wI, rL70_3 L0, rL70_6 L0, rL70_7 L0, rL70_8 L0, oL72 L0, inb_n (lL72 L0), oL75 L0, inb_n (lL75 L0), oL76 L0, inb_n (lL76 L0), nz_t, ix_n, e0, h72, h75, zw, s1, s2, sI_wo, sI_w1]
  by_cases c : lf - z = 0
  · rw [if_pos (show nI (lf - z) = 0 by rw [c]; rfl)]
    exact dn _ (by rw [if_pos c])
  · rw [if_neg (nI_ne0 (by omega) (by omega))]
    exact dn _ (by rw [if_neg c])
theorem gM2 {ρ τ0 : St} (L : Lay ρ) (f0 : Fr Wla ρ τ0) {m b e a c i ro s r lf f z : Nat} {T : Int32} (hm : m < 6) (hro : ro ≤ 60) (hi : i < ro) (hs : s < 2) (hz : z = zF lf a r (csF s (b / 12))) (hz0 : 0 < z) (ha4 : a ≤ 400) (hb : b < 72) (h14 : sI ρ 101 14 = nI e) (h72 : sI ρ 138 s = nI r) (hr : r ≤ 600) (h75 : sI ρ 141 i = nI lf) (hlf : lf ≤ 500) (h77 : sI ρ 143 i = -1) (ht : f12_tollOf ρ 101 (nI m) (nI i) (nI z) = some (T, τ0)) :
    ∃ ρ2, f12_grinds_p63 (f12_grinds_p15 f) ρ 101 (nI m) (nI a) (nI c) (nI i) (nI s) (nI (csF s (b / 12)) - 1) 1 = f12_grinds_p15 f ρ2 101 (nI m) (nI (a - z)) (nI (c + z)) (nI (i + 1)) ∧ Fr (Wgm m) ρ ρ2 ∧
      (∀ j, sI ρ2 138 j = up (sI ρ 138) s (nI (r - z * csF s (b / 12))) j) ∧ (∀ j, sI ρ2 141 j = up (sI ρ 141) i (nI (lf - z)) j) ∧ (∀ j, sI ρ2 142 j = up (sI ρ 142) i (sI ρ 142 i + T) j) ∧ (∀ j, sI ρ2 143 j = up (sI ρ 143) i (if lf - z = 0 then nI e else -1) j) ∧
      (∀ j, sI ρ2 110 j = sI ρ 110 j) ∧ (∀ j, sI ρ2 111 j = sI ρ 111 j) ∧ sI ρ2 112 m = sI ρ 112 m + T := by
  have cb := csF_b (s := s) (l := b / 12) (by omega)
  have hN := L.2.2
  have L0 := Lay_Fr f0 L
  have zl := zF_le (lf := lf) (a := a) (r := r) (w := csF s (b / 12))
  rw [← hz] at zl
  have e0 : ∀ x j, x ≤ 153 → x ≠ 134 → x ≠ 135 → sI τ0 x j = sI ρ x j := fun x j h1 h2 h3 => Fr_i f0 (by omega) (by unfold Wla; omega)
  have zw : nI z * nI (csF s (b / 12)) = nI (z * csF s (b / 12)) := pk_mul _ _
  have s1 : nI r - nI (z * csF s (b / 12)) = nI (r - z * csF s (b / 12)) := pk_sub zl.2.2
  have s2 : nI lf - nI z = nI (lf - z) := pk_sub zl.1
  have s3 : nI a - nI z = nI (a - z) := pk_sub zl.2.1
  have s4 : nI c + nI z = nI (c + z) := nI_add c z
  have e1 : (1 : Int32) + (nI (csF s (b / 12)) - 1) = nI (csF s (b / 12)) := by rw [Int32.add_comm, Int32.sub_add_cancel]
  have dn : ∀ τ, Lay τ → Fr (Wgm m) ρ τ → (∀ j, sI τ 138 j = sI ρ 138 j) → (∀ j, sI τ 141 j = up (sI ρ 141) i (nI (lf - z)) j) → (∀ j, sI τ 142 j = up (sI ρ 142) i (sI ρ 142 i + T) j) → (∀ j, sI τ 143 j = up (sI ρ 143) i (if lf - z = 0 then nI e else -1) j) → (∀ j, sI τ 110 j = sI ρ 110 j) → (∀ j, sI τ 111 j = sI ρ 111 j) → (∀ j, sI τ 112 j = sI ρ 112 j) →
      ∃ ρ2, f12_grinds_p156 (f12_grinds_p15 f) τ 101 (nI m) (nI a) (nI c) (nI i) (nI s) (nI (csF s (b / 12))) (nI z) T = f12_grinds_p15 f ρ2 101 (nI m) (nI (a - z)) (nI (c + z)) (nI (i + 1)) ∧ Fr (Wgm m) ρ ρ2 ∧
      (∀ j, sI ρ2 138 j = up (sI ρ 138) s (nI (r - z * csF s (b / 12))) j) ∧ (∀ j, sI ρ2 141 j = up (sI ρ 141) i (nI (lf - z)) j) ∧ (∀ j, sI ρ2 142 j = up (sI ρ 142) i (sI ρ 142 i + T) j) ∧ (∀ j, sI ρ2 143 j = up (sI ρ 143) i (if lf - z = 0 then nI e else -1) j) ∧
      (∀ j, sI ρ2 110 j = sI ρ 110 j) ∧ (∀ j, sI ρ2 111 j = sI ρ 111 j) ∧ sI ρ2 112 m = sI ρ 112 m + T := by
    intro τ Lt ft t138 t141 t142 t143 t110 t111 t112
    refine ⟨wI (wI τ 138 s (nI (r - z * csF s (b / 12)))) 112 m (sI ρ 112 m + T), ?_, ?_, fun j => ?_, fun j => ?_, fun j => ?_, fun j => ?_, fun j => ?_, fun j => ?_, ?_⟩
    · unfold f12_grinds_p156 f12_grinds_p192
      simp (disch := omega) only [gd_1, lt_b, bd_1, nz_s, ob_wI, inb_wI, sR_wI, sK_wI, oL101 Lt, rL101_54 Lt, rL101_12 Lt, oL138 Lt, inb_n (lL138 Lt), oL112 Lt, inb_n (lL112 Lt), nz_t, ix_n, t138, t112, h72, zw, s1, s3, s4, sI_wo, nI_1]
    · refine Fr_wI (Fr_wI ft ?_) ?_ <;> exact Or.inl (by unfold Wgm; omega)
    · simp (disch := omega) only [sI_wo]; rw [up_w]; unfold up; rw [t138]
    · simp (disch := omega) only [sI_wo]; exact t141 j
    · simp (disch := omega) only [sI_wo]; exact t142 j
    · simp (disch := omega) only [sI_wo]; exact t143 j
    · simp (disch := omega) only [sI_wo]; exact t110 j
    · simp (disch := omega) only [sI_wo]; exact t111 j
    · rw [sI_w1]
  have base : ∀ j, sI (wI (wI τ0 141 i (nI (lf - z))) 142 i (sI ρ 142 i + T)) 141 j = up (sI ρ 141) i (nI (lf - z)) j := fun j => by
    rw [sI_wo (by omega), up_w]; unfold up; rw [e0 141 j (by omega) (by omega) (by omega)]
  have base2 : ∀ j, sI (wI (wI τ0 141 i (nI (lf - z))) 142 i (sI ρ 142 i + T)) 142 j = up (sI ρ 142) i (sI ρ 142 i + T) j := fun j => by
    rw [up_w]; unfold up; rw [sI_wo (by omega), e0 142 j (by omega) (by omega) (by omega)]
  have fb : Fr (Wgm m) ρ (wI (wI τ0 141 i (nI (lf - z))) 142 i (sI ρ 142 i + T)) := by
    refine Fr_wI (Fr_wI (Fr_mo f0 (fun _ _ => la_gm)) ?_) ?_ <;> exact Or.inl (by unfold Wgm; omega)
  unfold f12_grinds_p63
  rw [e1, lt_b, gd_t (oL101 L), lt_b, rL101_58 L, gd_t nz_s, gd_t (oL141 L), gd_t (inb_n (lL141 L) (by omega) (by decide)), ix_n (k := i) (by omega), h75, bd_s min_s, mi_n (by omega) (by omega), lt_b, rL101_54 L, gd_t nz_s, gd_t (oL138 L), gd_t (inb_n (lL138 L) hs (by decide)), gd_t (nz_pos (by rw [nI_toInt (by omega)]; omega)), ix_n (k := s) (by omega), h72, pk_div (by omega) (by omega) (by omega), bd_s min_s, mi_n (by have := miN_le lf a; omega) (by have := Nat.div_le_self r (csF s (b / 12)); omega), show miN (miN lf a) (r / csF s (b / 12)) = z from hz.symm, if_neg (nI_ne0 (by omega) (by omega)), bd_s ht]
  simp (disch := omega) only [gd_1, lt_b, bd_1, nz_s, ob_wI, inb_wI, sR_wI, sK_wI, rL101_58 L0, rL101_59 L0, rL101_60 L0, oL141 L0, inb_n (lL141 L0), oL142 L0, inb_n (lL142 L0), oL143 L0, inb_n (lL143 L0), nz_t, ix_n, e0, h75, h14, s2, sI_wo, sI_w1]
  by_cases cc : lf - z = 0
  · rw [if_pos (show nI (lf - z) = 0 by rw [cc]; rfl)]
    refine dn _ (Lay_wI (Lay_wI (Lay_wI L0))) (Fr_wI fb (Or.inl (by unfold Wgm; omega))) (fun j => ?_) (fun j => ?_) (fun j => ?_) (fun j => ?_) (fun j => ?_) (fun j => ?_) (fun j => ?_)
    · simp (disch := omega) only [sI_wo, e0]
    · rw [sI_wo (by omega)]; exact base j
    · rw [sI_wo (by omega)]; exact base2 j
    · rw [up_w, if_pos cc]; unfold up; rw [sI_wo (by omega), sI_wo (by omega), e0 143 j (by omega) (by omega) (by omega)]
    · simp (disch := omega) only [sI_wo, e0]
    · simp (disch := omega) only [sI_wo, e0]
    · simp (disch := omega) only [sI_wo, e0]
  · rw [if_neg (nI_ne0 (by omega) (by omega))]
    refine dn _ (Lay_wI (Lay_wI L0)) fb (fun j => ?_) base base2 (fun j => ?_) (fun j => ?_) (fun j => ?_) (fun j => ?_)
    · simp (disch := omega) only [sI_wo, e0]
    · rw [if_neg cc]
      unfold up
      by_cases q : j = i
      · rw [if_pos q, q, sI_wo (by omega), sI_wo (by omega), e0 143 i (by omega) (by omega) (by omega), h77]
      · rw [if_neg q, sI_wo (by omega), sI_wo (by omega), e0 143 j (by omega) (by omega) (by omega)]
    · simp (disch := omega) only [sI_wo, e0]
    · simp (disch := omega) only [sI_wo, e0]
    · simp (disch := omega) only [sI_wo, e0]
