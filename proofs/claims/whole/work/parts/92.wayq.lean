/-! WAYS: how many lanes side by side are open; barred, word, way, kept asked -/
def opF (δ : St) (n : Nat) (f : Nat → Int32) (s : Nat) (h : Int32) (lane : Nat) : Bool := decide (¬ dpF (sI δ 3 (12 * lane + s)) h < 2 ∧ lyF f (nI (12 * lane + s)) n 0 = -1)
def runF (o : Nat → Bool) : Nat → Nat
  | 0 => 0
  | i + 1 => if o i = true then runF o i + 1 else 0
def mostF (o : Nat → Bool) : Nat → Nat
  | 0 => 0
  | i + 1 => if runF o (i + 1) ≤ mostF o i then mostF o i else runF o (i + 1)
theorem runF_le {o : Nat → Bool} : ∀ i, runF o i ≤ i := by
  intro i
  induction i with
  | zero => exact Nat.le_refl _
  | succ i ih =>
    unfold runF
    by_cases h : o i = true
    · rw [if_pos h]; omega
    · rw [if_neg h]; omega
theorem mostF_ge {o : Nat → Bool} : ∀ i j, j ≤ i → runF o j ≤ mostF o i := by
  intro i
  induction i with
  | zero => intro j hj; have : j = 0 := by omega
            subst this; exact Nat.le_refl _
  | succ i ih =>
    intro j hj
    unfold mostF
    by_cases h : runF o (i + 1) ≤ mostF o i
    · rw [if_pos h]
      by_cases e : j = i + 1
      · rw [e]; exact h
      · exact ih j (by omega)
    · rw [if_neg h]
      by_cases e : j = i + 1
      · rw [e]; exact Nat.le_refl _
      · have := ih j (by omega)
        omega
theorem mostF_at {o : Nat → Bool} : ∀ i, ∃ j, j ≤ i ∧ mostF o i = runF o j := by
  intro i
  induction i with
  | zero => exact ⟨0, Nat.le_refl _, rfl⟩
  | succ i ih =>
    unfold mostF
    by_cases h : runF o (i + 1) ≤ mostF o i
    · rw [if_pos h]
      obtain ⟨j, h1, h2⟩ := ih
      exact ⟨j, by omega, h2⟩
    · rw [if_neg h]; exact ⟨i + 1, Nat.le_refl _, rfl⟩
theorem mostF_le {o : Nat → Bool} (i : Nat) : mostF o i ≤ i := by
  obtain ⟨j, h1, h2⟩ := mostF_at (o := o) i
  rw [h2]
  exact Nat.le_trans (runF_le j) h1
theorem runF_cg {o p : Nat → Bool} : ∀ i, (∀ j, j < i → o j = p j) → runF o i = runF p i := by
  intro i
  induction i with
  | zero => intro _; rfl
  | succ i ih => intro h; unfold runF; rw [h i (by omega), ih (fun j hj => h j (by omega))]
theorem mostF_cg {o p : Nat → Bool} : ∀ i, (∀ j, j < i → o j = p j) → mostF o i = mostF p i := by
  intro i
  induction i with
  | zero => intro _; rfl
  | succ i ih => intro h; unfold mostF; rw [runF_cg (i + 1) h, ih (fun j hj => h j (by omega))]
theorem isOpen_l {σ : St} (L : Lay σ) {n a s w : Nat} {h : Int32} (hn : sI σ 2 5 = nI n) (hn6 : n ≤ 6) (ha : ob σ a 14 = true) (hl : (sK σ a).2 = 6) (hs : s < 12) (hw : w < 100) : ∀ (j i fuel : Nat), i + j = 6 → j < fuel → (∀ t, t < i → runF (opF σ n (sI σ a) s h) t < w) →
    f8_isOpen_p6 fuel σ 2 (nI s) (nI w) a h (nI (runF (opF σ n (sI σ a) s h) i)) (nI i) = some (if w ≤ mostF (opF σ n (sI σ a) s h) 6 then 1 else 0, σ) := by
  intro j
  induction j with
  | zero =>
    intro i fuel hi hf hb
    obtain ⟨f, rfl, -⟩ := suc_of hf
    have : i = 6 := by omega
    subst this
    have r6 := runF_le (o := opF σ n (sI σ a) s h) 6
    rw [f8_isOpen_p6, if_neg (by decide)]
    unfold f8_isOpen_p79
    by_cases c : runF (opF σ n (sI σ a) s h) 6 < w
    · rw [if_pos (nI_lt c (by omega)), if_neg]
      obtain ⟨q, q1, q2⟩ := mostF_at (o := opF σ n (sI σ a) s h) 6
      rw [q2]
      by_cases e : q = 6
      · rw [e]; omega
      · have := hb q (by omega); omega
    · rw [if_neg (nI_nlt (by omega) (by omega)), if_pos (by have := mostF_ge (o := opF σ n (sI σ a) s h) 6 6 (by omega); omega)]
  | succ j ih =>
    intro i fuel hi hf hb
    obtain ⟨f, rfl, hf2⟩ := suc_of hf
    have ri := runF_le (o := opF σ n (sI σ a) s h) i
    rw [f8_isOpen_p6, if_pos (show nI i < 6 from nI_lt (b := 6) (by omega) (by decide))]
    unfold f8_isOpen_p79
    by_cases c : runF (opF σ n (sI σ a) s h) i < w
    · have e12 : nI i * 12 + nI s = nI (12 * i + s) := by
        have : nI i * 12 = nI (i * 12) := pk_mul i 12
        rw [this, nI_add, Nat.mul_comm]
      have nx := ih (i + 1) f (by omega) (by omega) (fun t ht => by
        by_cases e : t = i
        · rw [e]; exact c
        · exact hb t (by omega))
      have er : runF (opF σ n (sI σ a) s h) (i + 1) = if opF σ n (sI σ a) s h i = true then runF (opF σ n (sI σ a) s h) i + 1 else 0 := rfl
      rw [if_pos (nI_lt c (by omega)), e12, lt_b, gd_t (oL2 L), bd_s (depth_s L (by omega))]
      unfold f8_isOpen_p55 f8_isOpen_p56 f8_isOpen_p71
      by_cases d : dpF (sI σ 3 (12 * i + s)) h < 2
      · have : ¬ opF σ n (sI σ a) s h i = true := fun q => (of_decide_eq_true q).1 d
        rw [if_neg this] at er
        rw [er] at nx
        rw [if_pos d, if_pos rfl, lt_b, nI_1]
        exact nx
      · rw [if_neg d, bd_s (lyingAt_s L hn hn6 ha hl)]
        by_cases e : lyF (sI σ a) (nI (12 * i + s)) n 0 = -1
        · have : opF σ n (sI σ a) s h i = true := decide_eq_true ⟨d, e⟩
          rw [if_pos this] at er
          rw [er] at nx
          rw [if_pos e, if_neg (by decide), lt_b, nI_1, nI_1]
          exact nx
        · have : ¬ opF σ n (sI σ a) s h i = true := fun q => e (of_decide_eq_true q).2
          rw [if_neg this] at er
          rw [er] at nx
          rw [if_neg e, if_pos rfl, lt_b, nI_1]
          exact nx
    · rw [if_neg (nI_nlt (by omega) (by omega)), if_neg (nI_nlt (by omega) (by omega)), if_pos (by have := mostF_ge (o := opF σ n (sI σ a) s h) 6 i (by omega); omega)]
theorem isOpen_s {σ : St} (L : Lay σ) {n a s w : Nat} {h : Int32} (hn : sI σ 2 5 = nI n) (hn6 : n ≤ 6) (ha : ob σ a 14 = true) (hl : (sK σ a).2 = 6) (hs : s < 12) (hw : w < 100) : f8_isOpen σ 2 (nI s) (nI w) a h = some (if w ≤ mostF (opF σ n (sI σ a) s h) 6 then 1 else 0, σ) :=
  isOpen_l L hn hn6 ha hl hs hw 6 0 FU (by omega) (by unfold FU; omega) (fun t ht => absurd ht (by omega))
theorem freeLanes_l {δ σ : St} (L : Lay σ) (B : VB δ) (RB : RiB δ σ) {n s : Nat} {h : Int32} (hn : sI σ 101 5 = nI n) (hn6 : n ≤ 6) (hs : s < 12) (hh : Hh h) : ∀ (j i fuel : Nat), i + j = 6 → j < fuel →
    f12_freeLanes_p8 fuel σ 101 (nI s) h (nI (runF (opF δ n (sI σ 109) s h) i)) (nI (mostF (opF δ n (sI σ 109) s h) i)) (nI i) = some (nI (mostF (opF δ n (sI σ 109) s h) 6), σ) := by
  intro j
  induction j with
  | zero =>
    intro i fuel hi hf
    obtain ⟨f, rfl, -⟩ := suc_of hf
    have : i = 6 := by omega
    subst this
    rw [f12_freeLanes_p8, if_neg (by decide)]
  | succ j ih =>
    intro i fuel hi hf
    obtain ⟨f, rfl, hf2⟩ := suc_of hf
    have e12 : (12 : Int32) * nI i + nI s = nI (12 * i + s) := by
      have : (12 : Int32) * nI i = nI (12 * i) := pk_mul 12 i
      rw [this, nI_add]
    have ri := runF_le (o := opF δ n (sI σ 109) s h) (i + 1)
    have ri0 := runF_le (o := opF δ n (sI σ 109) s h) i
    have mi := mostF_le (o := opF δ n (sI σ 109) s h) i
    have nx := ih (i + 1) f (by omega) (by omega)
    have er : runF (opF δ n (sI σ 109) s h) (i + 1) = if opF δ n (sI σ 109) s h i = true then runF (opF δ n (sI σ 109) s h) i + 1 else 0 := rfl
    have p52 : ∀ r, r = nI (runF (opF δ n (sI σ 109) s h) (i + 1)) → f12_freeLanes_p52 (f12_freeLanes_p8 f) σ 101 (nI s) h (nI (mostF (opF δ n (sI σ 109) s h) i)) (nI i) r = some (nI (mostF (opF δ n (sI σ 109) s h) 6), σ) := fun r hr => by
      have em : mostF (opF δ n (sI σ 109) s h) (i + 1) = if runF (opF δ n (sI σ 109) s h) (i + 1) ≤ mostF (opF δ n (sI σ 109) s h) i then mostF (opF δ n (sI σ 109) s h) i else runF (opF δ n (sI σ 109) s h) (i + 1) := rfl
      unfold f12_freeLanes_p52 f12_freeLanes_p65
      rw [hr]
      by_cases c : runF (opF δ n (sI σ 109) s h) (i + 1) ≤ mostF (opF δ n (sI σ 109) s h) i
      · rw [if_pos c] at em
        rw [em] at nx
        rw [if_pos (nI_le c (by omega)), lt_b, nI_1]
        exact nx
      · rw [if_neg c] at em
        rw [em] at nx
        rw [if_neg (nI_ge (by omega) (by omega)), lt_b, nI_1]
        exact nx
    rw [f12_freeLanes_p8, if_pos (show nI i < 6 from nI_lt (b := 6) (by omega) (by decide)), e12, lt_b, gd_t (oL101 L), bd_s (millAt_s L hn hn6)]
    unfold f12_freeLanes_p51
    by_cases e : lyF (sI σ 109) (nI (12 * i + s)) n 0 = -1
    · rw [if_pos e, bd_s (depthM_d L B RB (by omega) hh)]
      by_cases d : dpF (sI δ 3 (12 * i + s)) h < 2
      · rw [if_pos d]
        exact p52 0 (by rw [er, if_neg (fun q => (of_decide_eq_true q).1 d)]; rfl)
      · rw [if_neg d]
        exact p52 _ (by rw [er, if_pos (show opF δ n (sI σ 109) s h i = true from decide_eq_true ⟨d, e⟩), nI_1])
    · rw [if_neg e]
      exact p52 0 (by rw [er, if_neg (fun q => e (of_decide_eq_true q).2)]; rfl)
theorem freeLanes_s {δ σ : St} (L : Lay σ) (B : VB δ) (RB : RiB δ σ) {n s : Nat} {h : Int32} (hn : sI σ 101 5 = nI n) (hn6 : n ≤ 6) (hs : s < 12) (hh : Hh h) : f12_freeLanes σ 101 (nI s) h = some (nI (mostF (opF δ n (sI σ 109) s h) 6), σ) :=
  freeLanes_l L B RB hn hn6 hs hh 6 0 FU (by omega) (by unfold FU; omega)
theorem wayF_n {δ : St} {n : Nat → Nat} (g : gXc δ n) (p s0 : Nat) (d k : Int32) : ∃ w, w ≤ 6 ∧ wayF δ n p s0 d k = nI w := by
  have b : ∀ s, s < 2 → ∀ e, 0 ≤ (wyS δ n s d k e).toInt ∧ (wyS δ n s d k e).toInt ≤ 6 := fun s hs e => by
    rcases wyS_or g hs d k e with ⟨-, h⟩ | ⟨_, _, _, _, _, _, _, _, _, h⟩
    · rw [h]; decide
    · exact h
  have m : ∀ x y : Int32, 0 ≤ x.toInt ∧ x.toInt ≤ 6 → 0 ≤ y.toInt ∧ y.toInt ≤ 6 → 0 ≤ (mxI x y).toInt ∧ (mxI x y).toInt ≤ 6 := fun x y hx hy => by
    unfold mxI
    by_cases c : x < y
    · rw [if_pos c]; exact hy
    · rw [if_neg c]; exact hx
  have r := m _ _ (m 0 _ (by decide) (b 0 (by decide) (gsF s0 (hgF δ p d k) d))) (b 1 (by decide) (gsF s0 (hgF δ p d k) d))
  obtain ⟨w, hw, e⟩ := nI_of2 (x := wayF δ n p s0 d k) (M := 6) (n := 6) rfl (by rw [t_lt]; exact Int.not_lt.mpr r.1) (by rw [t_le]; exact r.2)
  exact ⟨w, hw, e⟩
def gX (σ : St) (n : Nat → Nat) : Prop := gXc σ n ∧ RiX σ σ n
def fpX (x : Nat) : Prop := fpC x ∨ 120 ≤ x ∧ x ≤ 130
theorem gX_Fr {W : Nat → Nat → Prop} {σ τ : St} {n : Nat → Nat} (h : Fr W σ τ) (L : Lay σ) (hw : ∀ x k, fpX x → ¬ W x k) (g : gX σ n) : gX τ n :=
  ⟨gXc_Fr h L (fun x k q => hw x k (Or.inl q)) g.1, RiX_Fr h L (fun x k q => hw x k (Or.inr q)) (RiX_Fd h L (fun x k q => hw x k (Or.inl q)) g.1 g.2)⟩
theorem gM_RR {σ : St} {nm d p q : Nat} {n : Nat → Nat} (b : gB σ) (m : gM σ nm d) (k : gKK σ p q) (x : gX σ n) : RR σ σ nm p q n := ⟨⟨b.1, k.1, x.1⟩, b.2, RiN_of m.ri, k.2, x.2⟩
def Wsy (x k : Nat) : Prop := x = 101 ∧ k = 0 ∨ x = 58 ∨ x = 59 ∨ x = 134 ∨ x = 135
theorem lh_sy {x k : Nat} (h : Wlh x k) : Wsy x k := by unfold Wlh at h; unfold Wsy; omega
theorem la_sy {x k : Nat} (h : Wla x k) : Wsy x k := by unfold Wla at h; unfold Wsy; omega
/-- behind the class's part, thrown put to 0: the reference's words are the class's of before -/
theorem RR_go {σ σ1 : St} (L : Lay σ) {nm d p q : Nat} {n : Nat → Nat} (b : gB σ) (m : gM σ nm d) (k : gKK σ p q) (x : gX σ n) (f : Fr Wlh σ σ1) : Lay (wI σ1 101 0 0) ∧ RR σ (wI σ1 101 0 0) nm p q n := by
  have f2 : Fr Wsy σ (wI σ1 101 0 0) := Fr_wI (Fr_mo f (fun _ _ => lh_sy)) (Or.inl (Or.inl ⟨rfl, rfl⟩))
  exact ⟨Lay_Fr f2 L, RR_Fr f2 L (fun x k q => by unfold Wsy; omega) (gM_RR b m k x)⟩
