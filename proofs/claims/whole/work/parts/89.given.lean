/-! WHAT IS GIVEN: the values of names for a mill at a berth, for a stretch -/
theorem inb_k0 {σ : St} {a len : Nat} (hl : (sK σ a).2 = len) (h : 0 < len) (h2 : len < 2147483648) : inb σ a 0 = true := inb_n (k := 0) hl h h2
theorem inb_k1 {σ : St} {a len : Nat} (hl : (sK σ a).2 = len) (h : 1 < len) (h2 : len < 2147483648) : inb σ a 1 = true := inb_n (k := 1) hl h h2
theorem inb_k2 {σ : St} {a len : Nat} (hl : (sK σ a).2 = len) (h : 2 < len) (h2 : len < 2147483648) : inb σ a 2 = true := inb_n (k := 2) hl h h2
theorem inb_k3 {σ : St} {a len : Nat} (hl : (sK σ a).2 = len) (h : 3 < len) (h2 : len < 2147483648) : inb σ a 3 = true := inb_n (k := 3) hl h h2
theorem inb_k4 {σ : St} {a len : Nat} (hl : (sK σ a).2 = len) (h : 4 < len) (h2 : len < 2147483648) : inb σ a 4 = true := inb_n (k := 4) hl h h2
theorem inb_k5 {σ : St} {a len : Nat} (hl : (sK σ a).2 = len) (h : 5 < len) (h2 : len < 2147483648) : inb σ a 5 = true := inb_n (k := 5) hl h h2
theorem inb_k6 {σ : St} {a len : Nat} (hl : (sK σ a).2 = len) (h : 6 < len) (h2 : len < 2147483648) : inb σ a 6 = true := inb_n (k := 6) hl h h2
theorem inb_k7 {σ : St} {a len : Nat} (hl : (sK σ a).2 = len) (h : 7 < len) (h2 : len < 2147483648) : inb σ a 7 = true := inb_n (k := 7) hl h h2
theorem inb_k8 {σ : St} {a len : Nat} (hl : (sK σ a).2 = len) (h : 8 < len) (h2 : len < 2147483648) : inb σ a 8 = true := inb_n (k := 8) hl h h2
theorem ix_k : ix 0 = 0 ∧ ix 1 = 1 ∧ ix 2 = 2 ∧ ix 3 = 3 ∧ ix 4 = 4 ∧ ix 5 = 5 ∧ ix 6 = 6 ∧ ix 7 = 7 ∧ ix 8 = 8 := ⟨rfl, rfl, rfl, rfl, rfl, rfl, rfl, rfl, rfl⟩
def gbF (δ : St) (h : Int32) (m b : Nat) (d sk : Int32) (s : Nat) : Int32 := if s = 0 then nI (b / 12) else if s = 1 then nI (b % 12) else if s = 2 then h else if s = 3 then dpF (sI δ 3 b) h else if s = 4 then d else if s = 5 then nI m else if s = 6 then sI δ (29 + m) 0 else if s = 7 then sI δ (29 + m) 1 else sk
def gsF (s0 : Nat) (h d : Int32) (s : Nat) : Int32 := if s = 1 then nI s0 else if s = 2 then h else if s = 4 then d else 0
def gbW (σ : St) (h : Int32) (m b : Nat) (d sk : Int32) : St := wI (wI (wI (wI (wI (wI (wI (wI (wI σ 58 0 (nI (b / 12))) 58 1 (nI (b % 12))) 58 2 h) 58 3 (dpF (sI σ 3 b) h)) 58 4 d) 58 5 (nI m)) 58 6 (sI σ (29 + m) 0)) 58 7 (sI σ (29 + m) 1)) 58 8 sk
theorem stretchN {σ : St} {b : Nat} (h : b < 2147483648) : f11_stretchOf σ (nI b) = some (nI (b % 12), σ) := by rw [stretchOf_s, n_mod12 h]
theorem laneN {σ : St} {b : Nat} (h : b < 2147483648) : f11_laneOf σ (nI b) = some (nI (b / 12), σ) := by rw [laneOf_s, n_div12 h]
theorem gbW_r {σ : St} {h d sk : Int32} {m b : Nat} : Fr Wlh σ (gbW σ h m b d sk) ∧ ∀ s, s < 9 → sI (gbW σ h m b d sk) 58 s = gbF σ h m b d sk s := by
  refine ⟨by unfold gbW; refine Fr_wI (Fr_wI (Fr_wI (Fr_wI (Fr_wI (Fr_wI (Fr_wI (Fr_wI (Fr_wI Fr_rf ?_) ?_) ?_) ?_) ?_) ?_) ?_) ?_) ?_ <;> exact Or.inl (Or.inl rfl), fun s hs => ?_⟩
  unfold gbW gbF
  have : s = 0 ∨ s = 1 ∨ s = 2 ∨ s = 3 ∨ s = 4 ∨ s = 5 ∨ s = 6 ∨ s = 7 ∨ s = 8 := by omega
  rcases this with rfl | rfl | rfl | rfl | rfl | rfl | rfl | rfl | rfl <;> simp (disch := omega) only [sI_w1, sI_wk, if_true, if_false, Nat.reduceEqDiff]
theorem giveBoat_s {σ : St} (L : Lay σ) {p q : Nat} (g : gK σ p q) {m b : Nat} (hm : m < 6) (hb : b < 72) (d k : Int32) : f4_giveBoat σ 35 (nI m) (nI b) d k = some ((), gbW σ (hgF σ p d k) m b d 0) := by
  have dp : ∀ x y z, f8_depth (wI (wI (wI σ 58 0 x) 58 1 y) 58 2 z) 2 (nI b) (hgF σ p d k) = some (dpF (sI σ 3 b) (hgF σ p d k), wI (wI (wI σ 58 0 x) 58 1 y) 58 2 z) := fun x y z => by
    rw [depth_s (Lay_wI (Lay_wI (Lay_wI L))) hb, sI_wo (by decide), sI_wo (by decide), sI_wo (by decide)]
  unfold f4_giveBoat gbW
  simp (disch := omega) only [gd_1, lt_b, bd_1, nz_s, ob_wI, inb_wI, sR_wI, sK_wI, oL35 L, rL35_0 L, rL35_1 L, rL35_2 L, rL35_3 L, rL35_4 L, rL35_5 L, rL35_6 L, rL35_7 L, oL36 L, rL36_0 L, rL36_1 L, rL36_2 L, oL2 L, rL2_0 L, rL2_1 L, rL2_2 L, rL2_3 L, rL2_4 L, oL5 L, inb_n (lL5 L), rL5_0 L, rL5_1 L, rL5_2 L, rL5_3 L, rL5_4 L, rL5_5 L, oL58 L, inb_n (lL58 L), inb_k0 (lL58 L), inb_k1 (lL58 L), inb_k2 (lL58 L), inb_k3 (lL58 L), inb_k4 (lL58 L), inb_k5 (lL58 L), inb_k6 (lL58 L), inb_k7 (lL58 L), inb_k8 (lL58 L), ix_n, ix_k, heightC L g, (lay_boat L hm).1, oboat L hm, nz_t, laneN, stretchN, dp, sI_wo]
theorem fill_l {a len : Nat} (v : Int32) : ∀ (j i fuel : Nat) (σ : St), ob σ a 14 = true → (sK σ a).2 = len → len < 2147483648 → i + j = len → j < fuel → ∃ τ, fJ7_fill_53178_p5 fuel σ a v (nI i) (nI len) = some ((), τ) ∧ Fr (fun x _ => x = a) σ τ ∧ (∀ k, i ≤ k → k < len → sI τ a k = v) ∧ ∀ k, k < i → sI τ a k = sI σ a k := by
  intro j
  induction j with
  | zero =>
    intro i fuel σ o l hl hi hf
    obtain ⟨f, rfl, -⟩ := suc_of hf
    exact ⟨σ, by rw [fJ7_fill_53178_p5, if_neg (nI_nlt (by omega) (by omega))], Fr_rf, fun k h1 h2 => absurd h2 (by omega), fun _ _ => rfl⟩
  | succ j ih =>
    intro i fuel σ o l hl hi hf
    obtain ⟨f, rfl, hf2⟩ := suc_of hf
    obtain ⟨τ, w1, w2, w3, w4⟩ := ih (i + 1) f (wI σ a i v) o l hl (by omega) (by omega)
    refine ⟨τ, ?_, Fr_tr (Fr_wI Fr_rf (Or.inl rfl)) w2, fun k h1 h2 => ?_, fun k hk => ?_⟩
    · rw [fJ7_fill_53178_p5, if_pos (nI_lt (by omega) (by omega)), gd_t o, gd_t (inb_n l (by omega) hl), lt_b, lt_b, ix_n (by omega), nI_1]
      exact w1
    · by_cases e : k = i
      · rw [e, w4 i (by omega), sI_w1]
      · exact w3 k (by omega) h2
    · rw [w4 k (by omega), sI_wk (by omega)]
theorem fill_s {σ : St} {a len : Nat} (v : Int32) (o : ob σ a 14 = true) (l : (sK σ a).2 = len) (hl : len < 3000) : ∃ τ, fJ7_fill_53178 σ a v = some ((), τ) ∧ Fr (fun x _ => x = a) σ τ ∧ ∀ k, k < len → sI τ a k = v := by
  obtain ⟨τ, w1, w2, w3, -⟩ := fill_l v len 0 FU σ o l (by omega) (by omega) (by unfold FU; omega)
  refine ⟨τ, ?_, w2, fun k hk => w3 k (by omega) hk⟩
  unfold fJ7_fill_53178
  rw [gd_t o, lt_b, l]
  exact w1
theorem giveStretch_s {σ : St} (L : Lay σ) {p q s : Nat} (g : gK σ p q) (d k : Int32) : ∃ τ, f4_giveStretch σ 35 (nI s) d k = some ((), τ) ∧ Fr Wlh σ τ ∧ ∀ j, j < 9 → sI τ 58 j = gsF s (hgF σ p d k) d j := by
  obtain ⟨τ, w1, w2, w3⟩ := fill_s 0 (oL58 L) (lL58 L) (by decide)
  have L0 := Lay_Fr w2 L
  have L1 : Lay (wI τ 58 1 (nI s)) := L0
  have fr0 : Fr Wlh σ τ := Fr_mo w2 (fun x _ h => Or.inl h)
  have fr1 : Fr Wlh σ (wI τ 58 1 (nI s)) := Fr_wI fr0 (Or.inl (Or.inl rfl))
  have g1 : gK (wI τ 58 1 (nI s)) p q := gK_Fr fr1 L (fun a k h1 h2 h => by unfold Wlh at h; omega) g
  have hh := heightC L1 g1 d k
  rw [(hgF_Fr fr1 L (fun a k h1 h2 h => by unfold Wlh at h; omega) p q d k).1] at hh
  refine ⟨wI (wI (wI τ 58 1 (nI s)) 58 2 (hgF σ p d k)) 58 4 d, ?_, Fr_wI (Fr_wI fr1 (Or.inl (Or.inl rfl))) (Or.inl (Or.inl rfl)), fun j hj => ?_⟩
  · unfold f4_giveStretch
    rw [gd_t (oL35 L), lt_b, rL35_6 L, gd_t nz_s, bd_s w1]
    simp (disch := omega) only [gd_1, lt_b, bd_1, nz_s, ob_wI, inb_wI, sR_wI, sK_wI, oL35 L0, rL35_0 L0, rL35_1 L0, rL35_2 L0, rL35_3 L0, rL35_4 L0, rL35_5 L0, rL35_6 L0, rL35_7 L0, oL36 L0, rL36_0 L0, rL36_1 L0, rL36_2 L0, oL58 L0, inb_n (lL58 L0), inb_k1 (lL58 L0), inb_k2 (lL58 L0), inb_k4 (lL58 L0), ix_k, nz_t, hh]
  · unfold gsF
    have : j = 0 ∨ j = 1 ∨ j = 2 ∨ j = 3 ∨ j = 4 ∨ j = 5 ∨ j = 6 ∨ j = 7 ∨ j = 8 := by omega
    rcases this with rfl | rfl | rfl | rfl | rfl | rfl | rfl | rfl | rfl <;> simp (disch := omega) only [sI_w1, sI_wk, if_true, if_false, Nat.reduceEqDiff, w3]
/-- the reference's mills, as far as names go -/
def RiN (δ σ : St) (n : Nat) : Prop := sI σ 101 5 = nI n ∧ n ≤ 6 ∧ ∀ m, m < n → sI σ 106 m = sI δ (29 + m) 0 ∧ sI σ 107 m = sI δ (29 + m) 1
theorem RiN_of {δ σ : St} {n : Nat} (M : RiM δ σ n) : RiN δ σ n := ⟨M.1, M.2.1, fun m hm => ⟨(M.2.2 m hm).1, (M.2.2 m hm).2.1⟩⟩
def Wnm (x _ : Nat) : Prop := x = 134
theorem names_s {δ σ : St} (L : Lay σ) (B : VB δ) (RB : RiB δ σ) {n m b : Nat} (M : RiN δ σ n) (hm : m < n) (hb : b < 72) {h : Int32} (hh : Hh h) (d sk : Int32) : ∃ τ, f12_names σ 101 (nI m) (nI b) d h sk = some ((), τ) ∧ Fr Wnm σ τ ∧ ∀ s, s < 9 → sI τ 134 s = gbF δ h m b d sk s := by
  have n6 := M.2.1
  have hq : nI b / 12 = nI (b / 12) := n_div12 (by omega)
  have hr : nI b - nI (b / 12) * 12 = nI (b % 12) := by rw [← hq]; exact n_mod12 (by omega)
  have dp := depthM_d (σ := wI (wI (wI σ 134 0 (nI (b / 12))) 134 1 (nI (b % 12))) 134 2 h) (b := b) (h := h) (Lay_wI (Lay_wI (Lay_wI L))) B (fun c hc => by rw [sI_wo (by decide), sI_wo (by decide), sI_wo (by decide)]; exact RB c hc) hb hh
  refine ⟨wI (wI (wI (wI (wI (wI (wI (wI (wI σ 134 0 (nI (b / 12))) 134 1 (nI (b % 12))) 134 2 h) 134 3 (dpF (sI δ 3 b) h)) 134 4 d) 134 5 (nI m)) 134 6 (sI δ (29 + m) 0)) 134 7 (sI δ (29 + m) 1)) 134 8 sk, ?_, by refine Fr_wI (Fr_wI (Fr_wI (Fr_wI (Fr_wI (Fr_wI (Fr_wI (Fr_wI (Fr_wI Fr_rf ?_) ?_) ?_) ?_) ?_) ?_) ?_) ?_) ?_ <;> exact Or.inl rfl, fun s hs => ?_⟩
  · unfold f12_names
    simp (disch := omega) only [gd_1, lt_b, bd_1, nz_s, ob_wI, inb_wI, sR_wI, sK_wI, oL101 L, rL101_47 L, rL101_6 L, rL101_7 L, oL134 L, inb_n (lL134 L), inb_k0 (lL134 L), inb_k1 (lL134 L), inb_k2 (lL134 L), inb_k3 (lL134 L), inb_k4 (lL134 L), inb_k5 (lL134 L), inb_k6 (lL134 L), inb_k7 (lL134 L), inb_k8 (lL134 L), oL106 L, inb_n (lL106 L), oL107 L, inb_n (lL107 L), ix_n, ix_k, nz_t, hq, hr, dp, sI_wo, (M.2.2 m hm).1, (M.2.2 m hm).2]
  · unfold gbF
    have : s = 0 ∨ s = 1 ∨ s = 2 ∨ s = 3 ∨ s = 4 ∨ s = 5 ∨ s = 6 ∨ s = 7 ∨ s = 8 := by omega
    rcases this with rfl | rfl | rfl | rfl | rfl | rfl | rfl | rfl | rfl <;> simp (disch := omega) only [sI_w1, sI_wk, if_true, if_false, Nat.reduceEqDiff]
