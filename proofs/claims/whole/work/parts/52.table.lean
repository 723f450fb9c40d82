/-! TABLES -/
theorem suc_of {n j : Nat} (h : j < n) : ∃ k, n = k + 1 ∧ j ≤ k := ⟨n - 1, by omega, by omega⟩
def fiF (xs : Nat → Int32) (x : Int32) : Nat → Nat → Nat
  | 0, i => i
  | j + 1, i => if xs i < x then fiF xs x j (i + 1) else i
def ipF (xs ys : Nat → Int32) (x : Int32) (k : Nat) : Int32 :=
  if xs (k + 1) - xs k ≤ 0 then ys (k + 1) else ys k + fdF ((ys (k + 1) - ys k) * (x - xs k)) (xs (k + 1) - xs k)
def vF (n : Nat) (xs ys : Nat → Int32) (x : Int32) : Int32 :=
  if n = 0 then 0 else if x ≤ xs 0 then ys 0 else if n ≤ fiF xs x (n - 1) 1 then ys (n - 1) else ipF xs ys x (fiF xs x (n - 1) 1 - 1)
theorem fiF_ge {xs : Nat → Int32} {x : Int32} : ∀ j i, i ≤ fiF xs x j i := by
  intro j
  induction j with
  | zero => intro i; exact Nat.le_refl _
  | succ j ih =>
    intro i
    unfold fiF
    by_cases h : xs i < x
    · rw [if_pos h]; exact Nat.le_trans (Nat.le_succ _) (ih (i + 1))
    · rw [if_neg h]; exact Nat.le_refl _
theorem fiF_le {xs : Nat → Int32} {x : Int32} : ∀ j i, fiF xs x j i ≤ i + j := by
  intro j
  induction j with
  | zero => intro i; exact Nat.le_refl _
  | succ j ih =>
    intro i
    unfold fiF
    by_cases h : xs i < x
    · rw [if_pos h]; have := ih (i + 1); omega
    · rw [if_neg h]; omega
/-- what lies ahead of the place is less; the place itself isn't -/
theorem fiF_sp {xs : Nat → Int32} {x : Int32} : ∀ j i, (∀ k, i ≤ k → k < fiF xs x j i → xs k < x) ∧ (fiF xs x j i < i + j → ¬ xs (fiF xs x j i) < x) := by
  intro j
  induction j with
  | zero => intro i; exact ⟨fun k h1 h2 => absurd h2 (by unfold fiF; omega), fun h => absurd h (by unfold fiF; omega)⟩
  | succ j ih =>
    intro i
    unfold fiF
    by_cases h : xs i < x
    · rw [if_pos h]
      obtain ⟨h1, h2⟩ := ih (i + 1)
      refine ⟨fun k hk hk2 => ?_, fun hl => h2 (by omega)⟩
      by_cases hi : k = i
      · rw [hi]; exact h
      · exact h1 k (by omega) hk2
    · rw [if_neg h]
      exact ⟨fun k h1 h2 => absurd h2 (by omega), fun _ => h⟩
theorem inb_0 {σ : St} {a len : Nat} (hl : (sK σ a).2 = len) (h : 0 < len) (h2 : len < 2147483648) : inb σ a 0 = true := by rw [← nI_0]; exact inb_n hl h h2
theorem ix_0 : ix (0 : Int32) = 0 := rfl
theorem at52_s {σ : St} (L : Lay σ) {t n k : Nat} {x : Int32} (ht : t < 7) (hn : sI σ (8 + 3 * t) 2 = nI n) (h8 : n ≤ 8) (hk : k + 1 ≤ n) :
    f9_at_p52 σ (8 + 3 * t) x (nI (k + 1)) = some (if n ≤ k + 1 then sI σ (10 + 3 * t) (n - 1) else ipF (sI σ (9 + 3 * t)) (sI σ (10 + 3 * t)) x k, σ) := by
  obtain ⟨-, k1, k2, k3, r1, r2⟩ := lay_tab L ht
  have o1 : ob σ (8 + 3 * t) 9 = true := ob_l L (by omega) (by omega) (by rw [k1])
  have o2 : ob σ (9 + 3 * t) 14 = true := ob_l L (by omega) (by omega) (by rw [k2])
  have o3 : ob σ (10 + 3 * t) 14 = true := ob_l L (by omega) (by omega) (by rw [k3])
  have l2 : (sK σ (9 + 3 * t)).2 = 8 := by rw [k2]
  have l3 : (sK σ (10 + 3 * t)).2 = 8 := by rw [k3]
  unfold f9_at_p52
  simp only [lt_b, r1, r2, hn]
  rw [gd_t o1]
  by_cases h : n ≤ k + 1
  · rw [if_neg (nI_nlt h (by omega)), if_pos h, gd_t (nz_t (by omega)), gd_t o3]
    obtain ⟨n', rfl, -⟩ := suc_of (show 0 < n by omega)
    rw [nI_pred, gd_t (inb_n l3 (by omega) (by decide)), ix_n (by omega)]
    rfl
  · rw [if_pos (nI_lt (by omega) (by omega)), if_neg h, gd_t (nz_t (by omega)), gd_t o2, nI_pred, gd_t (inb_n l2 (by omega) (by decide)), gd_t (inb_n l2 (by omega) (by decide)), ix_n (by omega), ix_n (by omega)]
    unfold ipF
    by_cases hr : sI σ (9 + 3 * t) (k + 1) - sI σ (9 + 3 * t) k ≤ 0
    · rw [if_pos hr, if_pos hr, gd_t (nz_t (by omega)), gd_t o3, gd_t (inb_n l3 (by omega) (by decide))]
    · rw [if_neg hr, if_neg hr, gd_t (nz_t (by omega)), gd_t o3, gd_t (inb_n l3 (by omega) (by decide)), gd_t (inb_n l3 (by omega) (by decide)), bd_s (floorDiv_s (fun e => hr (by rw [e]; decide)))]
theorem at28_s {σ : St} (L : Lay σ) {t n : Nat} {x : Int32} (ht : t < 7) (hn : sI σ (8 + 3 * t) 2 = nI n) (h8 : n ≤ 8) : ∀ (j k fuel : Nat), k + 1 + j = n → j < fuel →
    f9_at_p28 fuel σ (8 + 3 * t) x (nI (k + 1)) = some (if n ≤ fiF (sI σ (9 + 3 * t)) x j (k + 1) then sI σ (10 + 3 * t) (n - 1) else ipF (sI σ (9 + 3 * t)) (sI σ (10 + 3 * t)) x (fiF (sI σ (9 + 3 * t)) x j (k + 1) - 1), σ) := by
  obtain ⟨-, k1, k2, k3, r1, r2⟩ := lay_tab L ht
  have o1 : ob σ (8 + 3 * t) 9 = true := ob_l L (by omega) (by omega) (by rw [k1])
  have o2 : ob σ (9 + 3 * t) 14 = true := ob_l L (by omega) (by omega) (by rw [k2])
  have l2 : (sK σ (9 + 3 * t)).2 = 8 := by rw [k2]
  intro j
  induction j with
  | zero =>
    intro k fuel hm hf
    obtain ⟨f, rfl, -⟩ := suc_of hf
    rw [f9_at_p28, gd_t o1, hn, if_neg (nI_nlt (by omega) (by omega)), at52_s L ht hn h8 (by omega)]
    rfl
  | succ j ih =>
    intro k fuel hm hf
    obtain ⟨f, rfl, hf2⟩ := suc_of hf
    rw [f9_at_p28, gd_t o1, hn, if_pos (nI_lt (by omega) (by omega)), lt_b, r1, gd_t (nz_t (by omega)), gd_t o2, gd_t (inb_n l2 (by omega) (by decide)), ix_n (by omega)]
    unfold fiF
    by_cases h : sI σ (9 + 3 * t) (k + 1) < x
    · rw [if_pos h, if_pos h, lt_b, nI_1]
      exact ih (k + 1) f (by omega) (by omega)
    · rw [if_neg h, if_neg h, at52_s L ht hn h8 (by omega)]
      rfl
theorem at_s {σ : St} (L : Lay σ) {t n : Nat} {x : Int32} (ht : t < 7) (hn : sI σ (8 + 3 * t) 2 = nI n) (h8 : n ≤ 8) : f9_at σ (8 + 3 * t) x = some (vF n (sI σ (9 + 3 * t)) (sI σ (10 + 3 * t)) x, σ) := by
  obtain ⟨-, k1, k2, k3, r1, r2⟩ := lay_tab L ht
  have o1 : ob σ (8 + 3 * t) 9 = true := ob_l L (by omega) (by omega) (by rw [k1])
  have o2 : ob σ (9 + 3 * t) 14 = true := ob_l L (by omega) (by omega) (by rw [k2])
  have o3 : ob σ (10 + 3 * t) 14 = true := ob_l L (by omega) (by omega) (by rw [k3])
  have l2 : (sK σ (9 + 3 * t)).2 = 8 := by rw [k2]
  have l3 : (sK σ (10 + 3 * t)).2 = 8 := by rw [k3]
  unfold f9_at vF
  rw [gd_t o1, hn]
  by_cases h0 : n = 0
  · rw [if_pos h0, if_pos (by rw [h0]; rfl)]
  · rw [if_neg h0, if_neg (nI_ne0 (by omega) (by omega)), lt_b, r1, gd_t (nz_t (by omega)), gd_t o2, gd_t (inb_0 l2 (by decide) (by decide)), ix_0]
    by_cases h1 : x ≤ sI σ (9 + 3 * t) 0
    · rw [if_pos h1, if_pos h1, lt_b, r2, gd_t (nz_t (by omega)), gd_t o3, gd_t (inb_0 l3 (by decide) (by decide))]
    · rw [if_neg h1, if_neg h1]
      exact at28_s L ht hn h8 (n - 1) 0 FU (by omega) (by unfold FU; omega)
