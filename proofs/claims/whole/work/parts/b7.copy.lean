/-! A TEXT IS KEPT: its copy -/
theorem sN_wN {σ : St} {k n : Nat} : sN (wN σ k n) = sN σ + 1 := rfl
theorem sN_wC {σ : St} {a : Nat} {f : Nat → Int32} : sN (wC σ a f) = sN σ := rfl
theorem sK_wN {σ : St} {k n b : Nat} : sK (wN σ k n) b = if b = sN σ + 1 then (k, n) else sK σ b := rfl
theorem sR_wN {σ : St} {k n b j : Nat} : sR (wN σ k n) b j = if b = sN σ + 1 then 0 else sR σ b j := rfl
theorem sR_wR {σ : St} {a k v b j : Nat} : sR (wR σ a k v) b j = if b = a ∧ j = k then v else sR σ b j := rfl
theorem sI_wN {σ : St} {k n b j : Nat} : sI (wN σ k n) b j = if b = sN σ + 1 then 0 else sI σ b j := rfl
theorem cp_ok {σ : St} {a b n : Nat} (ha : n ≤ (sK σ a).2) (hb : n ≤ (sK σ b).2) (h : n < 2147483648) : cpOk σ a 0 b 0 (nI n) = true := by
  unfold cpOk
  have t := nI_toInt h
  have e : ix (nI n) = n := ix_n h
  have z : ix (0 : Int32) = 0 := rfl
  simp only [e, z, t, Bool.and_eq_true, decide_eq_true_eq, Nat.zero_add]
  exact ⟨⟨⟨⟨by decide, by decide⟩, by omega⟩, ha⟩, hb⟩
theorem cp_in {σ : St} {a b n q : Nat} (h : q < n) : sI (wCp σ a 0 b 0 n) b q = sI σ a q := by
  show (if b = b then va_cpy (sI σ a) (sI σ b) 0 0 n q else sI σ b q) = sI σ a q
  rw [if_pos rfl, pk_cpy_in (Nat.zero_le _) (by omega)]
  congr 1
  omega
theorem cp_out {σ : St} {a sp b dp n x : Nat} (h : x ≠ b) (q : Nat) : sI (wCp σ a sp b dp n) x q = sI σ x q := if_neg h
theorem sz_n {n : Nat} (h : n ≤ 100000) : szOk (nI n) = true := by
  unfold szOk
  rw [nI_toInt (by omega)]
  simp only [Bool.and_eq_true, decide_eq_true_eq]
  omega
def NR (σ : St) (a j n : Nat) : St := wR (wN σ 14 n) a j (sN σ + 1)
def itS (σ : St) (a c r : Nat) : St := NR (NR (NR (NR (NR σ a 0 c) a 1 r) a 2 r) a 3 r) a 4 r
theorem NR_N {σ : St} {a j n : Nat} : sN (NR σ a j n) = sN σ + 1 := rfl
theorem NR_U {σ : St} {a j n : Nat} : sU (NR σ a j n) = sU σ + n := rfl
theorem NR_Fr {W : Nat → Nat → Prop} {σ τ : St} {a j n : Nat} (hW : W 45 24) (f : Fr W σ τ) (h : sN σ < a) : Fr W σ (NR τ a j n) := Fr_wR (Fr_wN hW f) (Or.inr h)
theorem NR_Ko {σ : St} {a j n b : Nat} (h : b ≤ sN σ) : sK (NR σ a j n) b = sK σ b := if_neg (show ¬ b = sN σ + 1 by omega)
theorem NR_Kn {σ : St} {a j n b : Nat} (h : b = sN σ + 1) : sK (NR σ a j n) b = (14, n) := if_pos h
theorem NR_R1 {σ : St} {a j n : Nat} : sR (NR σ a j n) a j = sN σ + 1 := if_pos ⟨rfl, rfl⟩
theorem NR_Rk {σ : St} {a j n b k : Nat} (h : k ≠ j) (hb : b ≤ sN σ) : sR (NR σ a j n) b k = sR σ b k := by
  show (if b = a ∧ k = j then sN σ + 1 else if b = sN σ + 1 then 0 else sR σ b k) = _
  rw [if_neg (fun q => h q.2), if_neg (by omega)]
theorem ob_mk {σ : St} {a k n : Nat} (h : sK σ a = (k, n)) (h1 : 1 ≤ a) (h2 : a ≤ sN σ) : ob σ a k = true := by
  simp only [ob, Bool.and_eq_true, beq_iff_eq, decide_eq_true_eq]
  exact ⟨by rw [h], h1, h2⟩
theorem init_s {σ : St} {a c r : Nat} (ho : ob σ a 10 = true) (hc : c ≤ 400) (hr : r ≤ 20) : f10_init σ a (nI c) (nI r) = some ((), itS σ a c r) := by
  have mx : ∀ n, n ≤ 400 → (if (0 : Int32) < nI n then nI n else 0) = nI n := fun n hn => by
    by_cases q : n = 0
    · rw [q]; rfl
    · rw [if_pos (show (0 : Int32) < nI n from nI_lt (a := 0) (by omega) (by omega))]
  have o2 : ob (wN σ 14 c) a 10 = true := by
    obtain ⟨h1, h2, h3⟩ := ob_spec ho
    simp only [ob, Bool.and_eq_true, beq_iff_eq, decide_eq_true_eq]
    refine ⟨?_, h2, by rw [sN_wN]; omega⟩
    rw [sK_wN, if_neg (by omega)]; exact h1
  unfold f10_init
  rw [bd_s max_s, mx c (by omega), bd_s max_s, mx r (by omega), lt_b, gd_t (sz_n (by omega)), lt_b, ix_n (by omega), gd_t o2, lt_b, lt_b, gd_t (sz_n (by omega)), ix_n (by omega), lt_b, lt_b, lt_b, gd_t (sz_n (by omega)), lt_b, lt_b, lt_b, gd_t (sz_n (by omega)), lt_b, lt_b, lt_b, gd_t (sz_n (by omega)), lt_b, lt_b]
  rfl
/-- the new cells -/
theorem nw_s {W : Nat → Nat → Prop} (hW : W 45 24) {σ : St} {c r : Nat} : ∃ τ, itS (wN σ 10 7) (sN σ + 1) c r = τ ∧ Fr W σ τ ∧ sN τ = sN σ + 6 ∧ sU τ = sU σ + (7 + c + 4 * r) ∧ (sK τ (sN σ + 1) = (10, 7) ∧ sK τ (sN σ + 2) = (14, c) ∧ ∀ q, q < 4 → sK τ (sN σ + 3 + q) = (14, r)) ∧ ∀ q, q < 5 → sR τ (sN σ + 1) q = sN σ + 2 + q := by
  obtain ⟨τ0, e0, f0, n0, u0, k0⟩ : ∃ τ, wN σ 10 7 = τ ∧ Fr W σ τ ∧ sN τ = sN σ + 1 ∧ sU τ = sU σ + 7 ∧ sK τ (sN σ + 1) = (10, 7) := ⟨_, rfl, Fr_wN hW Fr_rf, rfl, rfl, if_pos rfl⟩
  have st : ∀ τ j n, Fr W σ τ → sN σ < sN τ → ∃ υ, NR τ (sN σ + 1) j n = υ ∧ Fr W σ υ ∧ sN υ = sN τ + 1 ∧ sU υ = sU τ + n ∧ (∀ b, b ≤ sN τ → sK υ b = sK τ b) ∧ sK υ (sN τ + 1) = (14, n) ∧ sR υ (sN σ + 1) j = sN τ + 1 ∧ ∀ k, k ≠ j → sR υ (sN σ + 1) k = sR τ (sN σ + 1) k := fun τ j n f h =>
    ⟨_, rfl, NR_Fr hW f (Nat.lt_succ_self _), NR_N, NR_U, fun b hb => NR_Ko hb, NR_Kn rfl, NR_R1, fun k hk => NR_Rk hk (by omega)⟩
  obtain ⟨τ1, e1, f1, n1, u1, o1, k1, r1, s1⟩ := st τ0 0 c f0 (by omega)
  obtain ⟨τ2, e2, f2, n2, u2, o2, k2, r2, s2⟩ := st τ1 1 r f1 (by omega)
  obtain ⟨τ3, e3, f3, n3, u3, o3, k3, r3, s3⟩ := st τ2 2 r f2 (by omega)
  obtain ⟨τ4, e4, f4, n4, u4, o4, k4, r4, s4⟩ := st τ3 3 r f3 (by omega)
  obtain ⟨τ5, e5, f5, n5, u5, o5, k5, r5, s5⟩ := st τ4 4 r f4 (by omega)
  refine ⟨τ5, by unfold itS; rw [e0, e1, e2, e3, e4, e5], f5, by omega, by omega, ⟨by rw [o5 _ (by omega), o4 _ (by omega), o3 _ (by omega), o2 _ (by omega), o1 _ (by omega), k0], ?_, fun q hq => ?_⟩, fun q hq => ?_⟩
  · rw [o5 _ (by omega), o4 _ (by omega), o3 _ (by omega), o2 _ (by omega), show sN σ + 2 = sN τ0 + 1 by omega, k1]
  · have : q = 0 ∨ q = 1 ∨ q = 2 ∨ q = 3 := by omega
    rcases this with rfl | rfl | rfl | rfl
    · rw [o5 _ (by omega), o4 _ (by omega), o3 _ (by omega), show sN σ + 3 + 0 = sN τ1 + 1 by omega, k2]
    · rw [o5 _ (by omega), o4 _ (by omega), show sN σ + 3 + 1 = sN τ2 + 1 by omega, k3]
    · rw [o5 _ (by omega), show sN σ + 3 + 2 = sN τ3 + 1 by omega, k4]
    · rw [show sN σ + 3 + 3 = sN τ4 + 1 by omega, k5]
  · have : q = 0 ∨ q = 1 ∨ q = 2 ∨ q = 3 ∨ q = 4 := by omega
    rcases this with rfl | rfl | rfl | rfl | rfl
    · rw [s5 _ (by decide), s4 _ (by decide), s3 _ (by decide), s2 _ (by decide), r1]; omega
    · rw [s5 _ (by decide), s4 _ (by decide), s3 _ (by decide), r2]; omega
    · rw [s5 _ (by decide), s4 _ (by decide), r3]; omega
    · rw [s5 _ (by decide), r4]; omega
    · rw [r5]; omega
