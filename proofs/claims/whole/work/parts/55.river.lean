/-! THE RIVER: pure words, and the class's reads -/
def lyF (f : Nat → Int32) (b : Int32) : Nat → Nat → Int32
  | 0, _ => -1
  | j + 1, m => if f m = b then nI m else lyF f b j (m + 1)
theorem lyF_sp {f : Nat → Int32} {b : Int32} : ∀ j m, (lyF f b j m = -1 ∧ ∀ k, m ≤ k → k < m + j → f k ≠ b) ∨ ∃ k, m ≤ k ∧ k < m + j ∧ lyF f b j m = nI k ∧ f k = b ∧ ∀ i, m ≤ i → i < k → f i ≠ b := by
  intro j
  induction j with
  | zero => intro m; exact Or.inl ⟨rfl, fun k h1 h2 => by omega⟩
  | succ j ih =>
    intro m
    unfold lyF
    by_cases h : f m = b
    · rw [if_pos h]; exact Or.inr ⟨m, by omega, by omega, rfl, h, fun i h1 h2 => by omega⟩
    · rw [if_neg h]
      rcases ih (m + 1) with ⟨h1, h2⟩ | ⟨k, h1, h2, h3, h4, h5⟩
      · refine Or.inl ⟨h1, fun k hk hk2 => ?_⟩
        by_cases hm : k = m
        · rw [hm]; exact h
        · exact h2 k (by omega) (by omega)
      · refine Or.inr ⟨k, by omega, by omega, h3, h4, fun i hi hi2 => ?_⟩
        by_cases hm : i = m
        · rw [hm]; exact h
        · exact h5 i (by omega) hi2
theorem lyF_congr {f g : Nat → Int32} {b : Int32} : ∀ j m, (∀ k, m ≤ k → k < m + j → f k = g k) → lyF f b j m = lyF g b j m := by
  intro j
  induction j with
  | zero => intro m _; rfl
  | succ j ih =>
    intro m h
    unfold lyF
    rw [h m (by omega) (by omega), ih (m + 1) (fun k h1 h2 => h k (by omega) (by omega))]
theorem isBerth_s {σ : St} {b : Int32} : f11_isBerth σ b = some (if 0 ≤ b ∧ b < 72 then 1 else 0, σ) := by
  unfold f11_isBerth
  by_cases h1 : b < 0
  · rw [if_pos h1, if_neg (fun h => absurd h.1 (Int32.not_le.mpr h1))]
  · rw [if_neg h1]
    by_cases h2 : b < 72
    · rw [if_pos h2, if_pos ⟨Int32.not_lt.mp h1, h2⟩]
    · rw [if_neg h2, if_neg (fun h => h2 h.2)]
theorem isBerth_n {σ : St} {b : Nat} (h : b < 72) : f11_isBerth σ (nI b) = some (1, σ) := by
  rw [isBerth_s, if_pos ⟨nI_pos' (by omega), nI_lt (b := 72) h (by decide)⟩]
theorem laneOf_s {σ : St} {b : Int32} : f11_laneOf σ b = some (b / 12, σ) := rfl
theorem stretchOf_s {σ : St} {b : Int32} : f11_stretchOf σ b = some (b - b / 12 * 12, σ) := rfl
theorem n_div12 {b : Nat} (h : b < 2147483648) : nI b / 12 = nI (b / 12) := pk_div (d := 12) h (by decide) (by decide)
theorem n_mod12 {b : Nat} (h : b < 2147483648) : nI b - nI b / 12 * 12 = nI (b % 12) := pk_rem (d := 12) h (by decide) (by decide)
theorem has_s {σ : St} (L : Lay σ) {m : Int32} : f8_has σ 2 m = some (if 0 ≤ m ∧ m < sI σ 2 5 then 1 else 0, σ) := by
  unfold f8_has
  by_cases h1 : m < 0
  · rw [if_pos h1, if_neg (fun h => absurd h.1 (Int32.not_le.mpr h1))]
  · rw [if_neg h1, gd_t (oL2 L)]
    by_cases h2 : m < sI σ 2 5
    · rw [if_pos h2, if_pos ⟨Int32.not_lt.mp h1, h2⟩]
    · rw [if_neg h2, if_neg (fun h => h2 h.2)]
theorem lyingAt_l {σ : St} (L : Lay σ) {n a : Nat} {b : Int32} (hn : sI σ 2 5 = nI n) (hn6 : n ≤ 6) (ha : ob σ a 14 = true) (hl : (sK σ a).2 = 6) : ∀ (j m fuel : Nat), m + j = n → j < fuel → f8_lyingAt_p2 fuel σ 2 b a (nI m) = some (lyF (sI σ a) b j m, σ) := by
  intro j
  induction j with
  | zero =>
    intro m fuel hm hf
    obtain ⟨f, rfl, -⟩ := suc_of hf
    rw [f8_lyingAt_p2, gd_t (oL2 L), hn, if_neg (nI_nlt (by omega) (by omega))]
    rfl
  | succ j ih =>
    intro m fuel hm hf
    obtain ⟨f, rfl, hf2⟩ := suc_of hf
    rw [f8_lyingAt_p2, gd_t (oL2 L), hn, if_pos (nI_lt (by omega) (by omega)), gd_t ha, gd_t (inb_n hl (by omega) (by decide)), ix_n (by omega), lyF]
    by_cases h : sI σ a m = b
    · rw [if_pos h, if_pos h]
    · rw [if_neg h, if_neg h, lt_b, nI_1]
      exact ih (m + 1) f (by omega) (by omega)
theorem lyingAt_s {σ : St} (L : Lay σ) {n a : Nat} {b : Int32} (hn : sI σ 2 5 = nI n) (hn6 : n ≤ 6) (ha : ob σ a 14 = true) (hl : (sK σ a).2 = 6) : f8_lyingAt σ 2 b a = some (lyF (sI σ a) b n 0, σ) :=
  lyingAt_l L hn hn6 ha hl n 0 FU (by omega) (by unfold FU; omega)
theorem millAt_l {σ : St} (L : Lay σ) {n : Nat} {b : Int32} (hn : sI σ 101 5 = nI n) (hn6 : n ≤ 6) : ∀ (j m fuel : Nat), m + j = n → j < fuel → f12_millAt_p2 fuel σ 101 b (nI m) = some (lyF (sI σ 109) b j m, σ) := by
  intro j
  induction j with
  | zero =>
    intro m fuel hm hf
    obtain ⟨f, rfl, -⟩ := suc_of hf
    rw [f12_millAt_p2, gd_t (oL101 L), hn, if_neg (nI_nlt (by omega) (by omega))]
    rfl
  | succ j ih =>
    intro m fuel hm hf
    obtain ⟨f, rfl, hf2⟩ := suc_of hf
    rw [f12_millAt_p2, gd_t (oL101 L), hn, if_pos (nI_lt (by omega) (by omega)), lt_b, rL101_9 L, gd_t nz_s, gd_t (oL109 L), gd_t (inb_n (lL109 L) (by omega) (by decide)), ix_n (by omega), lyF]
    by_cases h : sI σ 109 m = b
    · rw [if_pos h, if_pos h]
    · rw [if_neg h, if_neg h, lt_b, nI_1]
      exact ih (m + 1) f (by omega) (by omega)
theorem millAt_s {σ : St} (L : Lay σ) {n : Nat} {b : Int32} (hn : sI σ 101 5 = nI n) (hn6 : n ≤ 6) : f12_millAt σ 101 b = some (lyF (sI σ 109) b n 0, σ) :=
  millAt_l L hn hn6 n 0 FU (by omega) (by unfold FU; omega)
/-- depth of a berth with this bed -/
def dpF (bed h : Int32) : Int32 := if h - bed < 0 then 0 else h - bed
theorem depth_s {σ : St} (L : Lay σ) {b : Nat} {h : Int32} (hb : b < 72) : f8_depth σ 2 (nI b) h = some (dpF (sI σ 3 b) h, σ) := by
  unfold f8_depth
  rw [gd_t (oL2 L), lt_b, rL2_0 L, gd_t nz_s, gd_t (oL3 L), gd_t (inb_n (lL3 L) hb (by decide)), ix_n (by omega), lt_b]
  unfold dpF
  by_cases h9 : h - sI σ 3 b < 0
  · rw [if_pos h9, if_pos h9]
  · rw [if_neg h9, if_neg h9]
theorem lay_boat {σ : St} (h : Lay σ) {m : Nat} (hm : m < 6) : sR σ 5 m = 29 + m ∧ sK σ (29 + m) = (0, 7) := by
  have : m = 0 ∨ m = 1 ∨ m = 2 ∨ m = 3 ∨ m = 4 ∨ m = 5 := by omega
  rcases this with rfl | rfl | rfl | rfl | rfl | rfl
  · exact ⟨rL5_0 h, kL29 h⟩
  · exact ⟨rL5_1 h, kL30 h⟩
  · exact ⟨rL5_2 h, kL31 h⟩
  · exact ⟨rL5_3 h, kL32 h⟩
  · exact ⟨rL5_4 h, kL33 h⟩
  · exact ⟨rL5_5 h, kL34 h⟩
theorem oboat {σ : St} (L : Lay σ) {m : Nat} (hm : m < 6) : ob σ (29 + m) 0 = true := ob_l L (by omega) (by omega) (by rw [(lay_boat L hm).2])
theorem bears_s {σ : St} (L : Lay σ) {b m : Nat} {h : Int32} (hb : b < 72) (hm : m < 6) : f8_bears σ 2 (nI b) (nI m) h = some (if dpF (sI σ 3 b) h < sI σ (29 + m) 0 then 0 else 1, σ) := by
  unfold f8_bears
  rw [gd_t (oL2 L), bd_s (depth_s L hb), lt_b, rL2_2 L, gd_t nz_s, gd_t (oL5 L), gd_t (inb_n (lL5 L) hm (by decide)), lt_b, ix_n (by omega), (lay_boat L hm).1, gd_t (nz_t (by omega)), gd_t (oboat L hm)]
  by_cases h9 : dpF (sI σ 3 b) h < sI σ (29 + m) 0
  · rw [if_pos h9, if_pos h9]
  · rw [if_neg h9, if_neg h9]
/-- the shadow of a mill at `upper` -/
def shF (val wheel upper b : Int32) : Int32 :=
  if upper < 0 then 0 else if upper / 12 = b / 12 then (if b - upper < 1 then 0 else if b - upper ≤ 3 then val * wheel * (4 - (b - upper)) / 400 else 0) else 0
theorem shadow_s {σ : St} {val wheel upper b : Int32} : f8_shadow σ val wheel upper b = some (shF val wheel upper b, σ) := by
  unfold f8_shadow shF
  rw [lt_b]
  by_cases h1 : upper < 0
  · rw [if_pos h1, if_pos h1]
  · rw [if_neg h1, if_neg h1, bd_s laneOf_s, bd_s laneOf_s]
    by_cases h2 : upper / 12 = b / 12
    · rw [if_pos h2, if_pos h2]
      by_cases h3 : b - upper < 1
      · rw [if_pos h3, if_pos h3]
      · rw [if_neg h3, if_neg h3]
        by_cases h4 : b - upper ≤ 3
        · rw [if_pos h4, if_pos h4]
        · rw [if_neg h4, if_neg h4]
    · rw [if_neg h2, if_neg h2]
def smF (g : Nat → Int32) : Nat → Int32
  | 0 => 0
  | n + 1 => smF g n + g n
theorem smF_congr {f g : Nat → Int32} : ∀ n, (∀ k, k < n → f k = g k) → smF f n = smF g n := by
  intro n
  induction n with
  | zero => intro _; rfl
  | succ n ih => intro h; unfold smF; rw [ih (fun k hk => h k (by omega)), h n (by omega)]
def mx0 (x : Int32) : Int32 := if 0 < x then x else 0
def flF (n : Nat) (val : Int32) (wh f : Nat → Int32) (b : Int32) : Int32 := mx0 (val - smF (fun o => shF val (wh o) (f o) b) n)
theorem max_s {σ : St} {a b : Int32} : fJ9_max_7cf53 σ a b = some (if a < b then b else a, σ) := by
  unfold fJ9_max_7cf53
  by_cases h : a < b
  · rw [if_pos h, if_pos h]
  · rw [if_neg h, if_neg h]
theorem min_s {σ : St} {a b : Int32} : fJ9_min_7cf53 σ a b = some (if a ≤ b then a else b, σ) := by
  unfold fJ9_min_7cf53
  by_cases h : a ≤ b
  · rw [if_pos h, if_pos h]
  · rw [if_neg h, if_neg h]
theorem i_sub2 (v s g : Int32) : v - s - g = v - (s + g) := by
  rw [Int32.sub_eq_add_neg, Int32.sub_eq_add_neg, Int32.sub_eq_add_neg, Int32.neg_add, Int32.sub_eq_add_neg, Int32.add_assoc]
theorem flow_l {σ : St} (L : Lay σ) {n a : Nat} {b val : Int32} (hn : sI σ 2 5 = nI n) (hn6 : n ≤ 6) (ha : ob σ a 14 = true) (hl : (sK σ a).2 = 6) : ∀ (j o fuel : Nat), o + j = n → j < fuel →
    f8_flowMet_p38 fuel σ 2 a b val (val - smF (fun o => shF val (sI σ (29 + o) 1) (sI σ a o) b) o) (nI o) = some (flF n val (fun o => sI σ (29 + o) 1) (sI σ a) b, σ) := by
  intro j
  induction j with
  | zero =>
    intro o fuel hm hf
    obtain ⟨f, rfl, -⟩ := suc_of hf
    have : o = n := by omega
    subst this
    rw [f8_flowMet_p38, gd_t (oL2 L), hn, if_neg (nI_nlt (by omega) (by omega)), bd_s max_s]
    rfl
  | succ j ih =>
    intro o fuel hm hf
    obtain ⟨f, rfl, hf2⟩ := suc_of hf
    have ho : o < 6 := by omega
    rw [f8_flowMet_p38, gd_t (oL2 L), hn, if_pos (nI_lt (by omega) (by omega)), lt_b, rL2_2 L, gd_t nz_s, gd_t (oL5 L), gd_t (inb_n (lL5 L) ho (by decide)), lt_b, ix_n (by omega), (lay_boat L ho).1, gd_t (nz_t (by omega)), gd_t (oboat L ho), gd_t ha, gd_t (inb_n hl ho (by decide)), bd_s shadow_s, lt_b, lt_b, nI_1, i_sub2]
    exact ih (o + 1) f (by omega) (by omega)
def tn (σ : St) (t : Nat) : Nat := ix (sI σ (8 + 3 * t) 2)
def VT (σ : St) : Prop := ∀ t, t < 7 → sI σ (8 + 3 * t) 2 = nI (tn σ t) ∧ TabOk (tn σ t) (sI σ (9 + 3 * t)) (sI σ (10 + 3 * t))
def valT (σ : St) (t : Nat) (x : Int32) : Int32 := vF (tn σ t) (sI σ (9 + 3 * t)) (sI σ (10 + 3 * t)) x
theorem at_v {σ : St} (L : Lay σ) (V : VT σ) {t : Nat} {x : Int32} (ht : t < 7) : f9_at σ (8 + 3 * t) x = some (valT σ t x, σ) := at_s L ht (V t ht).1 (V t ht).2.1
theorem otab {σ : St} (L : Lay σ) {t : Nat} (ht : t < 7) : ob σ (8 + 3 * t) 9 = true := ob_l L (by omega) (by omega) (by rw [(lay_tab L ht).2.1])
def whF (σ : St) (o : Nat) : Int32 := sI σ (29 + o) 1
theorem flow_s {σ : St} (L : Lay σ) (V : VT σ) {n a m b : Nat} {h : Int32} (hn : sI σ 2 5 = nI n) (hn6 : n ≤ 6) (ha : ob σ a 14 = true) (hl : (sK σ a).2 = 6) (hm : m < 6) (hb : b < 72) (hat : sI σ a m = nI b) :
    f8_flowMet σ 2 (nI m) a h = some (flF n (valT σ (b / 12) h) (whF σ) (sI σ a) (nI b), σ) := by
  have hl7 : b / 12 < 7 := by omega
  unfold f8_flowMet
  rw [gd_t ha, gd_t (inb_n hl hm (by decide)), lt_b, ix_n (by omega), hat, bd_s (isBerth_n hb), if_neg (by decide), gd_t (oL2 L), lt_b, rL2_1 L, gd_t nz_s, bd_s laneOf_s, n_div12 (by omega), gd_t (oL4 L), gd_t (inb_n (lL4 L) hl7 (by decide)), lt_b, ix_n (by omega), (lay_tab L hl7).1, gd_t (nz_t (by omega)), gd_t (otab L hl7), bd_s (at_v L V hl7)]
  have := flow_l L (n := n) (a := a) (b := nI b) (val := valT σ (b / 12) h) hn hn6 ha hl n 0 FU (by omega) (by unfold FU; omega)
  rw [show valT σ (b / 12) h - smF (fun o => shF (valT σ (b / 12) h) (sI σ (29 + o) 1) (sI σ a o) (nI b)) 0 = valT σ (b / 12) h from Int32.sub_zero _] at this
  exact this
