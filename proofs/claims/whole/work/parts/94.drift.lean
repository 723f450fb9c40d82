/-! DRIFTING, side by side: what both memories share -/
theorem RiV_Fd {W : Nat → Nat → Prop} {δ ε σ : St} {n : Nat} (h : Fr W δ ε) (L : Lay δ) (hw : ∀ a k, a = 3 ∨ 8 ≤ a ∧ a ≤ 34 → ¬ W a k) (R : RiV δ σ n) : RiV ε σ n := by
  have hN := L.2.2
  have e : ∀ a k, a = 3 ∨ 8 ≤ a ∧ a ≤ 34 → sI ε a k = sI δ a k := fun a k q => Fr_i h (by omega) (hw a k q)
  have n6 := R.2.2.2.2.2.2.1
  have et : ∀ t, t < 7 → tn ε t = tn δ t := fun t ht => by unfold tn; rw [e _ _ (by omega)]
  have ex : ∀ t, t < 7 → sI ε (9 + 3 * t) = sI δ (9 + 3 * t) := fun t ht => funext fun k => e _ _ (by omega)
  have ey : ∀ t, t < 7 → sI ε (10 + 3 * t) = sI δ (10 + 3 * t) := fun t ht => funext fun k => e _ _ (by omega)
  refine ⟨R.1, fun t ht => ?_, fun t ht => ?_, fun b hb => ?_, fun b hb => ?_, R.2.2.2.2.2.1, n6, fun m hm => ?_⟩
  · rw [et t ht, ex t ht, ey t ht, e _ _ (by omega)]; exact R.2.1 t ht
  · rw [et t ht, ex t ht, ey t ht]; exact R.2.2.1 t ht
  · rw [e _ _ (by omega)]; exact R.2.2.2.1 b hb
  · rw [e _ _ (by omega)]; exact R.2.2.2.2.1 b hb
  · rw [e _ _ (by omega), e _ _ (by omega), e _ _ (by omega), e _ _ (by omega), e _ _ (by omega), e _ _ (by omega), e _ _ (by omega)]; exact R.2.2.2.2.2.2.2 m hm
def DE (σ ρ : St) : Prop := ∃ v, v ≤ 300 ∧ sI σ 68 2 = nI v ∧ sI ρ 101 49 = nI v ∧ ∀ i, i < 5 * v → sI ρ 136 i = sI σ 69 i
def DR (n e : Nat) (h ic : Int32) (σ ρ : St) : Prop :=
  (Lay σ ∧ RiV σ ρ n) ∧ (sI σ 2 5 = nI n ∧ (∀ m, m < n → sI ρ 109 m = sI σ 6 m) ∧ LO n (sI σ 6)) ∧ DE σ ρ ∧ (sI σ 68 3 = nI e ∧ sI ρ 101 14 = nI e) ∧ (sI σ 68 4 = h ∧ sI ρ 101 51 = h ∧ Hh h) ∧ sI σ 68 5 = ic ∧ sI ρ 101 52 = ic
def Wdc (n x k : Nat) : Prop := x = 6 ∧ k < n ∨ x = 69 ∨ x = 68 ∧ k = 2
def Wdm (x k : Nat) : Prop := x = 109 ∨ x = 136 ∨ x = 101 ∧ k = 49
def Wtc (x k : Nat) : Prop := x = 69 ∨ x = 68 ∧ k = 2
def Wtm (x k : Nat) : Prop := x = 136 ∨ x = 101 ∧ k = 49
theorem DR_go {n e : Nat} {h ic : Int32} {σ ρ σ' ρ' : St} (d : DR n e h ic σ ρ) (f : Fr (Wdc n) σ σ') (g : Fr Wdm ρ ρ') (de : DE σ' ρ') (li : ∀ m, m < n → sI ρ' 109 m = sI σ' 6 m) (lo : LO n (sI σ' 6)) : DR n e h ic σ' ρ' := by
  obtain ⟨⟨L, R⟩, ⟨sz, -, -⟩, -, ⟨d1, d2⟩, ⟨d3, d4, d5⟩, d6, d7⟩ := d
  have hN := L.2.2
  have hN' := R.1.2.2
  have ec : ∀ x k, x ≤ 153 → ¬ Wdc n x k → sI σ' x k = sI σ x k := fun x k h1 h2 => Fr_i f (by omega) h2
  have em : ∀ x k, x ≤ 153 → ¬ Wdm x k → sI ρ' x k = sI ρ x k := fun x k h1 h2 => Fr_i g (by omega) h2
  refine ⟨⟨Lay_Fr f L, RiV_Fd f L (fun a k q => by unfold Wdc; omega) (RiV_Fr g (fun a k q => by unfold Wdm; omega) R)⟩, ⟨?_, li, lo⟩, de, ⟨?_, ?_⟩, ⟨?_, ?_, d5⟩, ?_, ?_⟩
  · rw [ec _ _ (by omega) (by unfold Wdc; omega)]; exact sz
  · rw [ec _ _ (by omega) (by unfold Wdc; omega)]; exact d1
  · rw [em _ _ (by omega) (by unfold Wdm; omega)]; exact d2
  · rw [ec _ _ (by omega) (by unfold Wdc; omega)]; exact d3
  · rw [em _ _ (by omega) (by unfold Wdm; omega)]; exact d4
  · rw [ec _ _ (by omega) (by unfold Wdc; omega)]; exact d6
  · rw [em _ _ (by omega) (by unfold Wdm; omega)]; exact d7
theorem tc_dc {n x k : Nat} (h : Wtc x k) : Wdc n x k := by unfold Wtc at h; unfold Wdc; omega
theorem tm_dm {x k : Nat} (h : Wtm x k) : Wdm x k := by unfold Wtm at h; unfold Wdm; omega
theorem tell_d {n e : Nat} {h ic : Int32} {σ ρ : St} (d : DR n e h ic σ ρ) (w a b c : Int32) : ∃ σ' ρ', f2_tell σ 68 w a b c = some ((), σ') ∧ f12_tells ρ 101 w a b c = some ((), ρ') ∧ Fr Wtc σ σ' ∧ Fr Wtm ρ ρ' ∧ DR n e h ic σ' ρ' ∧ sI σ' 6 = sI σ 6 := by
  have d' := d
  obtain ⟨⟨L, R⟩, ⟨sz, li, lo⟩, ⟨v, hv, v1, v2, v3⟩, ⟨d1, d2⟩, -⟩ := d'
  have Lr := R.1
  have hN := L.2.2
  have hN' := Lr.2.2
  have go : ∀ σ' ρ', Fr Wtc σ σ' → Fr Wtm ρ ρ' → DE σ' ρ' → Fr Wtc σ σ' ∧ Fr Wtm ρ ρ' ∧ DR n e h ic σ' ρ' ∧ sI σ' 6 = sI σ 6 := by
    intro σ' ρ' f g de
    have e6 : sI σ' 6 = sI σ 6 := funext fun k => Fr_i f (by omega) (by unfold Wtc; omega)
    refine ⟨f, g, DR_go d (Fr_mo f (fun _ _ => tc_dc)) (Fr_mo g (fun _ _ => tm_dm)) de (fun m hm => ?_) (by rw [e6]; exact lo), e6⟩
    rw [e6, Fr_i g (by omega) (by unfold Wtm; omega)]; exact li m hm
  by_cases hv3 : v < 300
  · have e1 : nI v * 5 = nI (5 * v) := by rw [Nat.mul_comm]; exact pk_mul v 5
    have e2 : (5 : Int32) * nI v = nI (5 * v) := pk_mul 5 v
    have a1 : nI (5 * v) + 1 = nI (5 * v + 1) := nI_add _ 1
    have a2 : nI (5 * v) + 2 = nI (5 * v + 2) := nI_add _ 2
    have a3 : nI (5 * v) + 3 = nI (5 * v + 3) := nI_add _ 3
    have a4 : nI (5 * v) + 4 = nI (5 * v + 4) := nI_add _ 4
    have q1 : nI v < 300 := nI_lt (b := 300) hv3 (by decide)
    have q2 : ¬ nI v = 300 := fun q => by have := (nI_eq (a := v) (b := 300) (by omega) (by omega)).mp q; omega
    refine ⟨wI (wI (wI (wI (wI (wI σ 69 (5 * v) (nI e)) 69 (5 * v + 1) w) 69 (5 * v + 2) a) 69 (5 * v + 3) b) 69 (5 * v + 4) c) 68 2 (nI (v + 1)), wI (wI (wI (wI (wI (wI ρ 136 (5 * v) (nI e)) 136 (5 * v + 1) w) 136 (5 * v + 2) a) 136 (5 * v + 3) b) 136 (5 * v + 4) c) 101 49 (nI (v + 1)), ?_, ?_, go _ _ ?_ ?_ ⟨v + 1, by omega, sI_w1 _ _ _ _, sI_w1 _ _ _ _, fun i hi => ?_⟩⟩
    · unfold f2_tell
      rw [gd_t (oL68 L), v1, if_pos q1, e1]
      simp (disch := omega) only [gd_1, lt_b, bd_1, nz_s, ob_wI, inb_wI, sR_wI, sK_wI, oL69 L, inb_n (lL69 L), rL68_1 L, nz_t, a1, a2, a3, a4, ix_n, d1, sI_wo, v1, nI_1]
    · unfold f12_tells
      rw [gd_t (oL101 Lr), v2, if_neg q2, e2]
      simp (disch := omega) only [gd_1, lt_b, bd_1, nz_s, ob_wI, inb_wI, sR_wI, sK_wI, oL136 Lr, inb_n (lL136 Lr), rL101_50 Lr, nz_t, a1, a2, a3, a4, ix_n, d2, sI_wo, v2, nI_1]
    · refine Fr_wI (Fr_wI (Fr_wI (Fr_wI (Fr_wI (Fr_wI Fr_rf ?_) ?_) ?_) ?_) ?_) ?_ <;> exact Or.inl (by unfold Wtc; omega)
    · refine Fr_wI (Fr_wI (Fr_wI (Fr_wI (Fr_wI (Fr_wI Fr_rf ?_) ?_) ?_) ?_) ?_) ?_ <;> exact Or.inl (by unfold Wtm; omega)
    · have : i < 5 * v ∨ i = 5 * v ∨ i = 5 * v + 1 ∨ i = 5 * v + 2 ∨ i = 5 * v + 3 ∨ i = 5 * v + 4 := by omega
      rcases this with q | rfl | rfl | rfl | rfl | rfl
      · simp (disch := omega) only [sI_wo, sI_wk]; exact v3 i q
      all_goals simp (disch := omega) only [sI_wo, sI_wk, sI_w1]
  · refine ⟨σ, ρ, ?_, ?_, go _ _ Fr_rf Fr_rf ⟨v, hv, v1, v2, v3⟩⟩
    · unfold f2_tell
      rw [gd_t (oL68 L), v1, if_neg (show ¬ nI v < 300 from nI_nlt (b := 300) (by omega) (by omega))]
    · unfold f12_tells
      rw [gd_t (oL101 Lr), v2, if_pos (show nI v = 300 by rw [show v = 300 by omega]; rfl)]
/-! WHERE A MILL DRIFTS NEXT -/
def okB (t : Nat) (best : Int32) : Prop := best = -1 ∨ ∃ u, u < 72 ∧ best = nI u ∧ u % 12 = t + 1
def bvD (δ : St) (h best : Int32) : Int32 := if best = -1 then -1 else valT δ (ix best / 12) h
/-- a lane tried: x the lane, t the stretch -/
def cdF (δ : St) (m t : Nat) (h x best : Int32) : Int32 :=
  if 0 ≤ x ∧ x < 6 then (if dpF (sI δ 3 (12 * ix x + t + 1)) h < sI δ (29 + m) 0 then best else if valT δ (ix x) h ≤ bvD δ h best then best else nI (12 * ix x + t + 1)) else best
theorem valT_n {δ : St} (V : VT δ) {l : Nat} (hl : l < 7) (h : Int32) : 0 ≤ (valT δ l h).toInt ∧ (valT δ l h).toInt ≤ 400 := vF_range (V l hl).2 h
theorem cdF_ok {δ : St} {m t : Nat} {h x best : Int32} (ht : t ≤ 10) (o : okB t best) : okB t (cdF δ m t h x best) := by
  unfold cdF
  by_cases c : 0 ≤ x ∧ x < 6
  · obtain ⟨l, hl, rfl⟩ := inN (lim := 6) rfl (by decide) c
    rw [if_pos c, ix_n (by omega)]
    by_cases c1 : dpF (sI δ 3 (12 * l + t + 1)) h < sI δ (29 + m) 0
    · rw [if_pos c1]; exact o
    · rw [if_neg c1]
      by_cases c2 : valT δ l h ≤ bvD δ h best
      · rw [if_pos c2]; exact o
      · rw [if_neg c2]; exact Or.inr ⟨12 * l + t + 1, by omega, rfl, by omega⟩
  · rw [if_neg c]; exact o
theorem nb44 {σ : St} (L : Lay σ) (V : VT σ) {m t b : Nat} {h x best v3 v6 : Int32} (K : St → Nat → Int32 → Int32 → Int32 → Int32 → Int32 → Int32 → Option (Int32 × St)) (hm : m < 6) (hb : b < 72) (ht : t = b % 12) (t10 : t ≤ 10) (h4 : sI σ 68 4 = h) (o : okB t best) :
    f2_nextBerth_p44 K σ 68 (nI m) (nI b) v3 best (bvD σ h best) v6 x = K σ 68 (nI m) (nI b) v3 (cdF σ m t h x best) (bvD σ h (cdF σ m t h x best)) (v6 + 1) := by
  unfold f2_nextBerth_p44 f2_nextBerth_p123 cdF
  rw [bd_s (stretchN (by omega)), lt_b, ← ht]
  by_cases c0 : x < 0
  · rw [if_pos c0, if_neg (fun q => absurd q.1 (Int32.not_le.mpr c0)), lt_b]
  · rw [if_neg c0]
    by_cases c6 : x < 6
    · have c : 0 ≤ x ∧ x < 6 := ⟨Int32.not_lt.mp c0, c6⟩
      obtain ⟨l, hl, rfl⟩ := inN (lim := 6) rfl (by decide) c
      have e12 : nI l * 12 + nI t + 1 = nI (12 * l + t + 1) := by
        have : nI l * 12 = nI (l * 12) := pk_mul l 12
        rw [this, nI_add, nI_1, Nat.mul_comm]
      rw [if_pos c6, if_pos c, ix_n (by omega), gd_t (oL68 L), lt_b, rL68_0 L, gd_t nz_s, gd_t (oL2 L), e12, h4, bd_s (bears_s L (by omega) hm)]
      by_cases c1 : dpF (sI σ 3 (12 * l + t + 1)) h < sI σ (29 + m) 0
      · rw [if_pos c1, if_pos rfl, if_pos c1, lt_b]
      · rw [if_neg c1, if_neg (by decide), if_neg c1, lt_b, rL68_0 L, gd_t nz_s, gd_t (oL2 L), lt_b, rL2_1 L, gd_t nz_s, gd_t (oL4 L), gd_t (inb_n (lL4 L) (by omega) (by decide)), lt_b, (lay_tab L (show l < 7 by omega)).1, gd_t (nz_t (by omega)), gd_t (otab L (by omega)), h4, bd_s (at_v L V (by omega))]
        by_cases c2 : valT σ l h ≤ bvD σ h best
        · rw [if_pos c2, if_pos c2, lt_b]
        · rw [if_neg c2, if_neg c2, lt_b]
          have : bvD σ h (nI (12 * l + t + 1)) = valT σ l h := by
            unfold bvD
            rw [if_neg (nI_m1 (by omega)), ix_n (by omega), show (12 * l + t + 1) / 12 = l by omega]
          rw [this]
    · rw [if_neg c6, if_neg (fun q => c6 q.2), lt_b]
theorem dt58 {δ ρ : St} {n : Nat} (R : RiV δ ρ n) {m t : Nat} {h x best v2 v5 : Int32} (K : St → Nat → Int32 → Int32 → Int32 → Int32 → Int32 → Option (Int32 × St)) (hm : m < n) (t10 : t ≤ 10) (h4 : sI ρ 101 51 = h) (hh : Hh h) (o : okB t best) :
    f12_driftsTo_p58 K ρ 101 (nI m) v2 (nI (t + 1)) best v5 x = K ρ 101 (nI m) v2 (nI (t + 1)) (cdF δ m t h x best) (v5 + 1) := by
  have n6 := R.2.2.2.2.2.2.1
  have Lr := R.1
  unfold f12_driftsTo_p58 f12_driftsTo_p129 f12_driftsTo_p138 cdF
  rw [bd_s within_s, ite_B]
  simp only [le_lt (x := x) (a := 5) (b := 6) rfl]
  by_cases c : 0 ≤ x ∧ x < 6
  · obtain ⟨l, hl, rfl⟩ := inN (lim := 6) rfl (by decide) c
    have e12 : (12 : Int32) * nI l + nI (t + 1) = nI (12 * l + t + 1) := by
      have : (12 : Int32) * nI l = nI (12 * l) := pk_mul 12 l
      rw [this, nI_add]; rfl
    rw [if_pos c, if_pos c, ix_n (k := l) (by omega), gd_t (oL101 Lr), e12, h4, bd_s (depthM_d Lr R.2.2.2.1 R.2.2.2.2.1 (by omega) hh), lt_b, rL101_6 Lr, gd_t nz_s, gd_t (oL106 Lr), gd_t (inb_n (lL106 Lr) (by omega) (by decide)), ix_n (k := m) (by omega), (R.2.2.2.2.2.2.2 m hm).1]
    by_cases c1 : dpF (sI δ 3 (12 * l + t + 1)) h < sI δ (29 + m) 0
    · rw [if_pos c1, if_pos c1, lt_b]
    · rw [if_neg c1, if_neg c1]
      have vn := valT_n R.2.1 (show l < 7 by omega) h
      rcases o with rfl | ⟨u, hu, rfl, hu2⟩
      · have : ¬ valT δ l h ≤ bvD δ h (-1) := by
          unfold bvD
          rw [if_pos rfl, t_le]
          show ¬ _ ≤ (-1 : Int)
          omega
        rw [if_pos rfl, if_neg this, lt_b, lt_b]
      · have eb : bvD δ h (nI u) = valT δ (u / 12) h := by
          unfold bvD
          rw [if_neg (nI_m1 (by omega)), ix_n (by omega)]
        rw [if_neg (nI_m1 (by omega)), bd_s (valueOf_d Lr R.2.1 R.2.2.1 (by omega)), n_div12 (by omega), h4, bd_s (valueOf_d Lr R.2.1 R.2.2.1 (by omega)), eb]
        by_cases c2 : valT δ l h ≤ valT δ (u / 12) h
        · rw [if_pos c2, if_pos c2, lt_b]
        · rw [if_neg c2, if_neg c2, lt_b, lt_b]
  · rw [if_neg c, if_neg c, lt_b]
def nbF (δ : St) (m b : Nat) (h : Int32) : Int32 := cdF δ m (b % 12) h (nI (b / 12) + 1) (cdF δ m (b % 12) h (nI (b / 12) - 1) (cdF δ m (b % 12) h (nI (b / 12)) (-1)))
theorem nbF_ok {δ : St} {m b : Nat} {h : Int32} (t10 : b % 12 ≤ 10) : okB (b % 12) (nbF δ m b h) := cdF_ok t10 (cdF_ok t10 (cdF_ok t10 (Or.inl rfl)))
theorem nextBerth_s {σ : St} (L : Lay σ) (V : VT σ) {m b : Nat} {h : Int32} (hm : m < 6) (hb : b < 72) (t10 : b % 12 ≤ 10) (h4 : sI σ 68 4 = h) : f2_nextBerth σ 68 (nI m) (nI b) = some (nbF σ m b h, σ) := by
  unfold f2_nextBerth nbF
  rw [bd_s (laneN (by omega))]
  show f2_nextBerth_p14 (2996 + 1 + 1 + 1 + 1) σ 68 (nI m) (nI b) (nI (b / 12)) (-1) (bvD σ h (-1)) 0 = _
  rw [f2_nextBerth_p14, if_pos (by decide), if_pos rfl, nb44 L V _ hm hb rfl t10 h4 (Or.inl rfl), f2_nextBerth_p14, if_pos (by decide), if_neg (by decide), if_pos (by decide), nb44 L V _ hm hb rfl t10 h4 (cdF_ok t10 (Or.inl rfl)), f2_nextBerth_p14, if_pos (by decide), if_neg (by decide), if_neg (by decide), nb44 L V _ hm hb rfl t10 h4 (cdF_ok t10 (cdF_ok t10 (Or.inl rfl))), f2_nextBerth_p14, if_neg (by decide)]
theorem driftsTo_s {δ ρ : St} {n : Nat} (R : RiV δ ρ n) {m b : Nat} {h : Int32} (hm : m < n) (hb : b < 72) (t10 : b % 12 ≤ 10) (hat : sI ρ 109 m = nI b) (h4 : sI ρ 101 51 = h) (hh : Hh h) : f12_driftsTo ρ 101 (nI m) = some (nbF δ m b h, ρ) := by
  have n6 := R.2.2.2.2.2.2.1
  have Lr := R.1
  unfold f12_driftsTo nbF
  rw [gd_t (oL101 Lr), lt_b, rL101_9 Lr, gd_t nz_s, gd_t (oL109 Lr), gd_t (inb_n (lL109 Lr) (by omega) (by decide)), ix_n (k := m) (by omega), hat, n_mod12 (by omega), n_div12 (by omega), lt_b, lt_b, nI_1]
  show f12_driftsTo_p28 (2996 + 1 + 1 + 1 + 1) ρ 101 (nI m) (nI (b / 12)) (nI (b % 12 + 1)) (-1) 0 = _
  rw [f12_driftsTo_p28, if_pos (by decide), if_pos rfl, dt58 R _ hm t10 h4 hh (Or.inl rfl), f12_driftsTo_p28, if_pos (by decide), if_neg (by decide), if_pos (by decide), dt58 R _ hm t10 h4 hh (cdF_ok t10 (Or.inl rfl)), f12_driftsTo_p28, if_pos (by decide), if_neg (by decide), if_neg (by decide), dt58 R _ hm t10 h4 hh (cdF_ok t10 (cdF_ok t10 (Or.inl rfl))), f12_driftsTo_p28, if_neg (by decide)]
