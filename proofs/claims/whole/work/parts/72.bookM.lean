/-! BOOKS in the reference -/
theorem i_m1 (x : Int32) : x + -1 = x - 1 := (Int32.sub_eq_add_neg x 1).symm
theorem bvF_cg {n : Nat} (hn : n < 2147483648) {days told vals days2 told2 vals2 : Nat → Int32} {d k v : Int32} (e1 : ∀ i, i < n → days i = days2 i) (e2 : ∀ i, i < n → told i = told2 i) (e3 : ∀ i, i < n → vals i = vals2 i) : bvF n days told vals d k v = bvF n days2 told2 vals2 d k v := by
  have e : bkF days told d k n = bkF days2 told2 d k n := Bk_uq (Bk_cg (bkF_sp n hn) e1 e2) (bkF_sp n hn)
  unfold bvF
  rw [e]
  rcases bkF_sp (days := days2) (told := told2) (d := d) (k := k) n hn with ⟨h1, -⟩ | ⟨q, -, q1, q2, -, -⟩
  · rw [h1, if_pos (by decide), if_pos (by decide)]
  · rw [q2, ix_n (by omega), e3 q q1]
theorem beF_cg {n : Nat} (hn : n < 2147483648) {days told vals days2 told2 vals2 : Nat → Int32} {d k v : Int32} (e1 : ∀ i, i < n → days i = days2 i) (e2 : ∀ i, i < n → told i = told2 i) (e3 : ∀ i, i < n → vals i = vals2 i) : beF n days told vals d k v = beF n days2 told2 vals2 d k v := by
  have e : bkF days told d k n = bkF days2 told2 d k n := Bk_uq (Bk_cg (bkF_sp n hn) e1 e2) (bkF_sp n hn)
  unfold beF
  rw [e]
  rcases bkF_sp (days := days2) (told := told2) (d := d) (k := k) n hn with ⟨h1, -⟩ | ⟨q, -, q1, q2, -, -⟩
  · rw [h1, if_pos (by decide), if_pos (by decide)]
  · rw [q2, ix_n (by omega), e3 q q1, e1 q q1]
theorem bvF_or {n : Nat} (hn : n < 2147483648) {days told vals : Nat → Int32} {d k v : Int32} : bvF n days told vals d k v = v ∨ ∃ i, i < n ∧ bvF n days told vals d k v = vals i := by
  unfold bvF
  rcases bkF_sp (days := days) (told := told) (d := d) (k := k) n hn with ⟨h1, -⟩ | ⟨q, -, q1, q2, -, -⟩
  · rw [h1, if_pos (by decide)]; exact Or.inl rfl
  · rw [q2, if_neg (nI_pos (by omega)), ix_n (by omega)]; exact Or.inr ⟨q, q1, rfl⟩
theorem beF_or {n : Nat} (hn : n < 2147483648) {days told vals : Nat → Int32} {d k v : Int32} : beF n days told vals d k v = v ∨ ∃ i, i < n ∧ beF n days told vals d k v = vals i := by
  unfold beF
  rcases bkF_sp (days := days) (told := told) (d := d) (k := k) n hn with ⟨h1, -⟩ | ⟨q, -, q1, q2, -, -⟩
  · rw [h1, if_pos (by decide)]; exact Or.inl rfl
  · rw [q2, if_neg (nI_pos (by omega)), ix_n (by omega)]
    by_cases c : days q = d
    · rw [if_pos c]; exact Or.inr ⟨q, q1, rfl⟩
    · rw [if_neg c]; exact Or.inl rfl
theorem heightAt_l {σ : St} (L : Lay σ) {n : Nat} (hl : n ≤ 200) (d k : Int32) : ∀ (i fuel : Nat) (v : Int32), i < fuel → i ≤ n → Bk (sI σ 114) (sI σ 116) d k i n v →
    f12_heightAt_p10 fuel σ 101 d k v (nI i - 1) = some (bvF n (sI σ 114) (sI σ 116) (sI σ 115) d k 5, σ) := by
  intro i
  induction i with
  | zero =>
    intro fuel v hf hi hB
    obtain ⟨f, rfl, -⟩ := suc_of hf
    have e := Bk_uq hB (bkF_sp n (by omega))
    rw [f12_heightAt_p10, if_pos (by decide)]
    unfold bvF
    rw [← e]
    rcases hB with ⟨h1, -⟩ | ⟨q, -, q1, q2, -, -⟩
    · rw [h1, if_pos rfl, if_pos (by decide)]
    · rw [q2, if_neg (nI_m1 (by omega)), if_neg (nI_pos (by omega)), gd_t (oL101 L), lt_b, rL101_17 L, gd_t nz_s, gd_t (oL115 L), gd_t (inb_n (lL115 L) (by omega) (by decide))]
  | succ i ih =>
    intro fuel v hf hi hB
    obtain ⟨f, rfl, hf2⟩ := suc_of hf
    have nx := Bk_dn (i := i) (by omega) (by omega) hB
    have st : ∀ w, w = (if (sI σ 116 i ≤ k ∧ sI σ 114 i ≤ d) ∧ (v = -1 ∨ ¬ sI σ 114 i ≤ sI σ 114 (ix v)) then nI i else v) → f12_heightAt_p64 (f12_heightAt_p10 f) σ 101 d k w (nI i) = some (bvF n (sI σ 114) (sI σ 116) (sI σ 115) d k 5, σ) := fun w hw => by
      unfold f12_heightAt_p64
      rw [lt_b, i_m1]
      exact ih f w (by omega) (by omega) (by rw [hw]; exact nx)
    have st2 : nI i = (if (sI σ 116 i ≤ k ∧ sI σ 114 i ≤ d) ∧ (v = -1 ∨ ¬ sI σ 114 i ≤ sI σ 114 (ix v)) then nI i else v) → f12_heightAt_p61 (f12_heightAt_p10 f) σ 101 d k (nI i) = some (bvF n (sI σ 114) (sI σ 116) (sI σ 115) d k 5, σ) := fun hw => by
      unfold f12_heightAt_p61
      exact st _ hw
    rw [f12_heightAt_p10, nI_pred, if_neg (nI_pos (by omega)), gd_t (oL101 L), lt_b, rL101_18 L, gd_t nz_s, gd_t (oL116 L), gd_t (inb_n (lL116 L) (by omega) (by decide)), ix_n (by omega)]
    by_cases c1 : sI σ 116 i ≤ k
    · rw [if_pos c1, lt_b, rL101_16 L, gd_t nz_s, gd_t (oL114 L), gd_t (inb_n (lL114 L) (by omega) (by decide))]
      by_cases c2 : sI σ 114 i ≤ d
      · rw [if_pos c2]
        by_cases c3 : v = -1
        · rw [if_pos c3]
          exact st2 (by rw [if_pos ⟨⟨c1, c2⟩, Or.inl c3⟩])
        · rw [if_neg c3]
          rcases hB with ⟨h1, -⟩ | ⟨q, -, q1, q2, -, -⟩
          · exact absurd h1 c3
          · rw [gd_t (by rw [q2]; exact inb_n (lL114 L) (by omega) (by decide))]
            by_cases c4 : sI σ 114 i ≤ sI σ 114 (ix v)
            · rw [if_pos c4]
              exact st _ (by rw [if_neg (fun w => by rcases w.2 with w | w; exact c3 w; exact w c4)])
            · rw [if_neg c4]
              exact st2 (by rw [if_pos ⟨⟨c1, c2⟩, Or.inr c4⟩])
      · rw [if_neg c2]
        exact st _ (by rw [if_neg (fun w => c2 w.1.2)])
    · rw [if_neg c1]
      exact st _ (by rw [if_neg (fun w => c1 w.1.1)])
theorem heightAt_s {σ : St} (L : Lay σ) {n : Nat} (hn : sI σ 101 15 = nI n) (hl : n ≤ 200) (d k : Int32) : f12_heightAt σ 101 d k = some (bvF n (sI σ 114) (sI σ 116) (sI σ 115) d k 5, σ) := by
  unfold f12_heightAt
  rw [gd_t (oL101 L), lt_b, hn]
  exact heightAt_l L hl d k n FU (-1) (by unfold FU; omega) (Nat.le_refl _) (Or.inl ⟨rfl, fun i h1 h2 => absurd h2 (by omega)⟩)
theorem iceAt_l {σ : St} (L : Lay σ) {n : Nat} (hl : n ≤ 200) (hB : ∀ i, i < n → isB (sI σ 118 i) = true) (d k : Int32) : ∀ (i fuel : Nat), i < fuel → i ≤ n → (∀ j, i ≤ j → j < n → ¬ (sI σ 119 j ≤ k ∧ sI σ 117 j = d)) →
    f12_iceAt_p7 fuel σ 101 d k (nI i - 1) = some (beF n (sI σ 117) (sI σ 119) (sI σ 118) d k 0, σ) := by
  intro i
  induction i with
  | zero =>
    intro fuel hf hi hN
    obtain ⟨f, rfl, -⟩ := suc_of hf
    rw [f12_iceAt_p7, if_pos (by decide)]
    unfold beF
    rcases bkF_sp (days := sI σ 117) (told := sI σ 119) (d := d) (k := k) n (by omega) with ⟨h1, -⟩ | ⟨q, -, q1, q2, q3, -⟩
    · rw [h1, if_pos (by decide)]
    · rw [q2, if_neg (nI_pos (by omega)), ix_n (by omega), if_neg (fun w => hN q (by omega) q1 ⟨q3.1, w⟩)]
  | succ i ih =>
    intro fuel hf hi hN
    obtain ⟨f, rfl, hf2⟩ := suc_of hf
    have st : ¬ (sI σ 119 i ≤ k ∧ sI σ 117 i = d) → f12_iceAt_p38 (f12_iceAt_p7 f) σ 101 d k (nI i) = some (beF n (sI σ 117) (sI σ 119) (sI σ 118) d k 0, σ) := fun w => by
      unfold f12_iceAt_p38
      rw [lt_b, i_m1]
      refine ih f (by omega) (by omega) (fun j h1 h2 => ?_)
      by_cases e : j = i
      · rw [e]; exact w
      · exact hN j (by omega) h2
    rw [f12_iceAt_p7, nI_pred, if_neg (nI_pos (by omega)), gd_t (oL101 L), lt_b, rL101_22 L, gd_t nz_s, gd_t (oL119 L), gd_t (inb_n (lL119 L) (by omega) (by decide)), ix_n (by omega)]
    by_cases c1 : sI σ 119 i ≤ k
    · rw [if_pos c1, lt_b, rL101_20 L, gd_t nz_s, gd_t (oL117 L), gd_t (inb_n (lL117 L) (by omega) (by decide))]
      by_cases c2 : sI σ 117 i = d
      · rw [if_pos c2, lt_b, rL101_21 L, gd_t nz_s, gd_t (oL118 L), gd_t (inb_n (lL118 L) (by omega) (by decide)), gd_t (hB i (by omega))]
        have hB2 : Bk (sI σ 117) (sI σ 119) d k 0 n (nI i) := Or.inr ⟨i, by omega, by omega, rfl, ⟨c1, by rw [c2]; exact Int32.le_refl _⟩, fun q q1 q2 q3 => by
          rw [c2]
          refine ⟨q3.2, fun h => ?_⟩
          have w := hN q (by omega) q2
          have w2 : sI σ 117 q ≠ d := fun e => w ⟨q3.1, e⟩
          have w3 := q3.2
          rw [t_lt]
          rw [t_le] at w3
          rw [Ne, t_eq] at w2
          omega⟩
        unfold beF
        rw [← Bk_uq hB2 (bkF_sp n (by omega)), if_neg (nI_pos (by omega)), ix_n (by omega), if_pos c2]
      · rw [if_neg c2]
        exact st (fun w => c2 w.2)
    · rw [if_neg c1]
      exact st (fun w => c1 w.1)
theorem iceAt_s {σ : St} (L : Lay σ) {n : Nat} (hn : sI σ 101 19 = nI n) (hl : n ≤ 200) (hB : ∀ i, i < n → isB (sI σ 118 i) = true) (d k : Int32) : f12_iceAt σ 101 d k = some (beF n (sI σ 117) (sI σ 119) (sI σ 118) d k 0, σ) := by
  unfold f12_iceAt
  rw [gd_t (oL101 L), lt_b, hn]
  exact iceAt_l L hl hB d k n FU (by unfold FU; omega) (Nat.le_refl _) (fun j h1 h2 => absurd h2 (by omega))
/-- heights and ice told -/
def gK (σ : St) (p q : Nat) : Prop := (p ≤ 200 ∧ q ≤ 200) ∧ (sI σ 36 3 = nI p ∧ sI σ 40 3 = nI q) ∧ (∀ i, i < p → Hh (sI σ 39 i)) ∧ (∀ i, i < q → isB (sI σ 43 i) = true)
/-- the reference's are δ's -/
def RiK (δ σ : St) (p q : Nat) : Prop := (sI σ 101 15 = nI p ∧ sI σ 101 19 = nI q) ∧ (∀ i, i < p → sI σ 114 i = sI δ 37 i ∧ sI σ 115 i = sI δ 39 i ∧ sI σ 116 i = sI δ 38 i) ∧ (∀ i, i < q → sI σ 117 i = sI δ 41 i ∧ sI σ 118 i = sI δ 43 i ∧ sI σ 119 i = sI δ 42 i)
def hgF (δ : St) (p : Nat) (d k : Int32) : Int32 := bvF p (sI δ 37) (sI δ 38) (sI δ 39) d k 5
def icF (δ : St) (q : Nat) (d k : Int32) : Int32 := beF q (sI δ 41) (sI δ 42) (sI δ 43) d k 0
theorem hgF_h {δ : St} {p q : Nat} (g : gK δ p q) (d k : Int32) : Hh (hgF δ p d k) := by
  have := g.1
  rcases bvF_or (n := p) (by omega) (days := sI δ 37) (told := sI δ 38) (vals := sI δ 39) (d := d) (k := k) (v := 5) with h | ⟨i, h1, h2⟩
  · unfold hgF
    rw [h]
    unfold Hh
    decide
  · unfold hgF
    rw [h2]
    exact g.2.2.1 i h1
theorem icF_b {δ : St} {p q : Nat} (g : gK δ p q) (d k : Int32) : icF δ q d k = 0 ∨ icF δ q d k = 1 := by
  have := g.1
  rcases beF_or (n := q) (by omega) (days := sI δ 41) (told := sI δ 42) (vals := sI δ 43) (d := d) (k := k) (v := 0) with h | ⟨i, h1, h2⟩
  · exact Or.inl h
  · unfold icF
    rw [h2]
    have := g.2.2.2 i h1
    simp only [isB, Bool.or_eq_true, decide_eq_true_eq] at this
    exact this
theorem heightC {σ : St} (L : Lay σ) {p q : Nat} (g : gK σ p q) (d k : Int32) : f1_latestOr σ 36 d k 5 = some (hgF σ p d k, σ) := latestOr_s L (Or.inl rfl) g.2.1.1 g.1.1 d k 5
theorem iceC {σ : St} (L : Lay σ) {p q : Nat} (g : gK σ p q) (d k : Int32) : f1_exactOr σ 40 d k 0 = some (icF σ q d k, σ) := exactOr_s L (Or.inr (Or.inl rfl)) g.2.1.2 g.1.2 d k 0
theorem heightM {δ σ : St} (L : Lay σ) {p q : Nat} (g : gK δ p q) (R : RiK δ σ p q) (d k : Int32) : f12_heightAt σ 101 d k = some (hgF δ p d k, σ) := by
  have := g.1
  rw [heightAt_s L R.1.1 g.1.1 d k]
  unfold hgF
  rw [bvF_cg (by omega) (fun i hi => (R.2.1 i hi).1) (fun i hi => (R.2.1 i hi).2.2) (fun i hi => (R.2.1 i hi).2.1)]
theorem iceM {δ σ : St} (L : Lay σ) {p q : Nat} (g : gK δ p q) (R : RiK δ σ p q) (d k : Int32) : f12_iceAt σ 101 d k = some (icF δ q d k, σ) := by
  have := g.1
  rw [iceAt_s L R.1.2 g.1.2 (fun i hi => by rw [(R.2.2 i hi).2.1]; exact g.2.2.2 i hi) d k]
  unfold icF
  rw [beF_cg (by omega) (fun i hi => (R.2.2 i hi).1) (fun i hi => (R.2.2 i hi).2.2) (fun i hi => (R.2.2 i hi).2.1)]
def fpK (a k : Nat) : Prop := 36 ≤ a ∧ a ≤ 43 ∨ 114 ≤ a ∧ a ≤ 119 ∨ a = 101 ∧ (k = 15 ∨ k = 19)
theorem gK_Fr {W : Nat → Nat → Prop} {σ τ : St} {p q : Nat} (h : Fr W σ τ) (L : Lay σ) (hw : ∀ a k, 36 ≤ a → a ≤ 43 → ¬ W a k) (g : gK σ p q) : gK τ p q := by
  have hN := L.2.2
  have e : ∀ a k, 36 ≤ a → a ≤ 43 → sI τ a k = sI σ a k := fun a k h1 h2 => Fr_i h (by omega) (hw a k h1 h2)
  exact ⟨g.1, ⟨by rw [e 36 _ (by omega) (by omega)]; exact g.2.1.1, by rw [e 40 _ (by omega) (by omega)]; exact g.2.1.2⟩, fun i hi => by rw [e 39 _ (by omega) (by omega)]; exact g.2.2.1 i hi, fun i hi => by rw [e 43 _ (by omega) (by omega)]; exact g.2.2.2 i hi⟩
theorem hgF_Fr {W : Nat → Nat → Prop} {σ τ : St} (h : Fr W σ τ) (L : Lay σ) (hw : ∀ a k, 36 ≤ a → a ≤ 43 → ¬ W a k) (p q : Nat) (d k : Int32) : hgF τ p d k = hgF σ p d k ∧ icF τ q d k = icF σ q d k := by
  have hN := L.2.2
  have e : ∀ a, 36 ≤ a → a ≤ 43 → sI τ a = sI σ a := fun a h1 h2 => funext fun k => Fr_i h (by omega) (hw a k h1 h2)
  unfold hgF icF
  rw [e 37 (by omega) (by omega), e 38 (by omega) (by omega), e 39 (by omega) (by omega), e 41 (by omega) (by omega), e 42 (by omega) (by omega), e 43 (by omega) (by omega)]
  exact ⟨rfl, rfl⟩
theorem RiK_Fr {W : Nat → Nat → Prop} {δ σ τ : St} {p q : Nat} (h : Fr W σ τ) (L : Lay σ) (hw : ∀ a k, (114 ≤ a ∧ a ≤ 119 ∨ a = 101 ∧ (k = 15 ∨ k = 19)) → ¬ W a k) (R : RiK δ σ p q) : RiK δ τ p q := by
  have hN := L.2.2
  have e : ∀ a k, 114 ≤ a → a ≤ 119 → sI τ a k = sI σ a k := fun a k h1 h2 => Fr_i h (by omega) (hw a k (by omega))
  refine ⟨⟨by rw [Fr_i h (by omega) (hw 101 15 (by omega))]; exact R.1.1, by rw [Fr_i h (by omega) (hw 101 19 (by omega))]; exact R.1.2⟩, fun i hi => ?_, fun i hi => ?_⟩
  · rw [e 114 _ (by omega) (by omega), e 115 _ (by omega) (by omega), e 116 _ (by omega) (by omega)]; exact R.2.1 i hi
  · rw [e 117 _ (by omega) (by omega), e 118 _ (by omega) (by omega), e 119 _ (by omega) (by omega)]; exact R.2.2 i hi
theorem RiK_Fd {W : Nat → Nat → Prop} {δ ε σ : St} {p q : Nat} (h : Fr W δ ε) (L : Lay δ) (hw : ∀ a k, 36 ≤ a → a ≤ 43 → ¬ W a k) (R : RiK δ σ p q) : RiK ε σ p q := by
  have hN := L.2.2
  have e : ∀ a k, 36 ≤ a → a ≤ 43 → sI ε a k = sI δ a k := fun a k h1 h2 => Fr_i h (by omega) (hw a k h1 h2)
  refine ⟨R.1, fun i hi => ?_, fun i hi => ?_⟩
  · rw [e 37 _ (by omega) (by omega), e 38 _ (by omega) (by omega), e 39 _ (by omega) (by omega)]; exact R.2.1 i hi
  · rw [e 41 _ (by omega) (by omega), e 42 _ (by omega) (by omega), e 43 _ (by omega) (by omega)]; exact R.2.2 i hi
