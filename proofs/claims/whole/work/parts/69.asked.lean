/-! FLOW, POWER, PULL, LOSS: asked of mills that lie -/
theorem smF_cg {n : Nat} {val b : Int32} {wh f g : Nat → Int32} (h : ∀ o, o < n → f o = g o) : flF n val wh f b = flF n val wh g b := by
  unfold flF
  rw [smF_congr n (fun o ho => by show shF val (wh o) (f o) b = shF val (wh o) (g o) b; rw [h o ho])]
theorem flP_cg {δ : St} {n b : Nat} {f g : Nat → Int32} {h : Int32} (e : ∀ o, o < n → f o = g o) : flP δ n f b h = flP δ n g b h := smF_cg e
theorem pwP_cg {δ : St} {n m : Nat} {f g : Nat → Int32} {h : Int32} (hm : m < n) (e : ∀ o, o < n → f o = g o) : pwP δ n f m h = pwP δ n g m h := by
  unfold pwP
  rw [e m hm, flP_cg e]
theorem plP_cg {δ : St} {n m : Nat} {f g : Nat → Int32} {h ice : Int32} (hm : m < n) (e : ∀ o, o < n → f o = g o) : plP δ n f m h ice = plP δ n g m h ice := by
  unfold plP
  rw [e m hm, flP_cg e]
theorem RiT_tr {δ σ τ : St} (R : RiT δ σ) (h : ∀ a k, 103 ≤ a → a ≤ 105 → sI τ a k = sI σ a k) : RiT δ τ := fun t ht => by
  rw [h 103 t (by omega) (by omega)]
  refine ⟨(R t ht).1, fun k hk => ?_⟩
  rw [h 104 _ (by omega) (by omega), h 105 _ (by omega) (by omega)]
  exact (R t ht).2 k hk
theorem RiB_tr {δ σ τ : St} (R : RiB δ σ) (h : ∀ k, sI τ 102 k = sI σ 102 k) : RiB δ τ := fun b hb => by rw [h]; exact R b hb
theorem RiM_tr {δ σ τ : St} {n : Nat} (R : RiM δ σ n) (h5 : sI τ 101 5 = sI σ 101 5) (h : ∀ a k, 106 ≤ a → a ≤ 113 → a ≠ 109 → sI τ a k = sI σ a k) : RiM δ τ n := by
  refine ⟨by rw [h5]; exact R.1, R.2.1, fun m hm => ?_⟩
  rw [h 106 m (by omega) (by omega) (by omega), h 107 m (by omega) (by omega) (by omega), h 108 m (by omega) (by omega) (by omega), h 110 m (by omega) (by omega) (by omega), h 111 m (by omega) (by omega) (by omega), h 112 m (by omega) (by omega) (by omega), h 113 m (by omega) (by omega) (by omega)]
  exact R.2.2 m hm
/-- the reference's river is δ's -/
def RiV (δ σ : St) (n : Nat) : Prop := Lay σ ∧ VT δ ∧ RiT δ σ ∧ VB δ ∧ RiB δ σ ∧ RiM δ σ n
theorem RiV_Fr {W : Nat → Nat → Prop} {δ σ τ : St} {n : Nat} (h : Fr W σ τ) (hw : ∀ a k, (102 ≤ a ∧ a ≤ 113 ∧ a ≠ 109 ∨ a = 101 ∧ k = 5) → ¬ W a k) (R : RiV δ σ n) : RiV δ τ n := by
  have hN := R.1.2.2
  exact ⟨Lay_Fr h R.1, R.2.1, RiT_tr R.2.2.1 (fun a k h1 h2 => Fr_i h (by omega) (hw a k (by omega))), R.2.2.2.1, RiB_tr R.2.2.2.2.1 (fun k => Fr_i h (by omega) (hw 102 k (by omega))), RiM_tr R.2.2.2.2.2 (Fr_i h (by omega) (hw 101 5 (by omega))) (fun a k h1 h2 h3 => Fr_i h (by omega) (hw a k (by omega)))⟩
theorem RiV_0 {σ : St} (L : Lay σ) {n d : Nat} (g : gM σ n d) (gt : gT σ) (gb : gB σ) : RiV σ σ n := ⟨L, gt.1, gt.2, gb.1, gb.2, g.ri⟩
theorem flowM_d {δ σ : St} {n : Nat} (R : RiV δ σ n) {m b : Nat} {h : Int32} (hm : m < n) (hb : b < 72) (hat : sI σ 109 m = nI b) (hO : LO n (sI σ 109)) : f12_flowOf σ 101 (nI m) h = some (flP δ n (sI σ 109) b h, σ) := flowOf_d R.1 R.2.1 R.2.2.1 R.2.2.2.2.2 hm hb hat hO
theorem powM_d {δ σ : St} {n : Nat} (R : RiV δ σ n) {m : Nat} {h : Int32} (hm : m < n) (hat : 0 ≤ sI σ 109 m) (hO : LO n (sI σ 109)) (hh : Hh h) : f12_powerOf σ 101 (nI m) h = some (pwP δ n (sI σ 109) m h, σ) := powerOf_d R.1 R.2.1 R.2.2.1 R.2.2.2.1 R.2.2.2.2.1 R.2.2.2.2.2 hm hat hO hh
theorem pulM_d {δ σ : St} {n : Nat} (R : RiV δ σ n) {m : Nat} {h ice : Int32} (hm : m < n) (hat : 0 ≤ sI σ 109 m) (hO : LO n (sI σ 109)) (hh : Hh h) : f12_pullOf σ 101 (nI m) h ice = some (plP δ n (sI σ 109) m h ice, σ) := pullOf_d R.1 R.2.1 R.2.2.1 R.2.2.2.1 R.2.2.2.2.1 R.2.2.2.2.2 hm hat hO hh
theorem liesAt_s {σ : St} (L : Lay σ) {n d : Nat} (g : gM σ n d) {m : Int32} : f8_liesAtBerth σ 2 m = some (if (0 ≤ m ∧ m < sI σ 2 5) ∧ 0 ≤ sI σ 6 (ix m) then 1 else 0, σ) := by
  have n6 := g.ri.2.1
  unfold f8_liesAtBerth
  rw [gd_t (oL2 L), bd_s (has_s L), ite_B]
  by_cases h : 0 ≤ m ∧ m < sI σ 2 5
  · obtain ⟨k, hk, rfl⟩ := has_n L g h
    rw [if_pos h, lt_b, rL2_3 L, gd_t nz_s, gd_t (oL6 L), gd_t (inb_n (lL6 L) (by omega) (by decide)), ix_n (by omega)]
    by_cases h2 : 0 ≤ sI σ 6 k
    · rw [if_neg (Int32.not_lt.mpr h2), if_pos ⟨h, h2⟩]
    · rw [if_pos (Int32.not_le.mp h2), if_neg (fun q => h2 q.2)]
  · rw [if_neg h, if_neg (fun q => h q.1)]
theorem isAsked_s {σ : St} (L : Lay σ) {n : Nat} (hn : sI σ 101 5 = nI n) (n6 : n ≤ 6) {m h : Int32} : f12_isAsked σ 101 m h = some (if ((0 ≤ m ∧ m < nI n) ∧ 0 ≤ sI σ 109 (ix m)) ∧ (0 ≤ h ∧ h ≤ 20) then 1 else 0, σ) := by
  unfold f12_isAsked
  rw [gd_t (oL101 L), bd_s (isMillM_s L), ite_B, hn]
  by_cases c : 0 ≤ m ∧ m < nI n
  · obtain ⟨k, hk, rfl⟩ := inN rfl (by omega) c
    rw [if_pos c, lt_b, rL101_9 L, gd_t nz_s, gd_t (oL109 L), gd_t (inb_n (lL109 L) (by omega) (by decide)), ix_n (by omega)]
    by_cases h2 : 0 ≤ sI σ 109 k
    · rw [if_neg (Int32.not_lt.mpr h2), bd_s within_s, ite_B]
      by_cases h3 : 0 ≤ h ∧ h ≤ 20
      · rw [if_pos h3, if_pos ⟨⟨c, h2⟩, h3⟩]
      · rw [if_neg h3, if_neg (fun q => h3 q.2)]
    · rw [if_pos (Int32.not_le.mp h2), if_neg (fun q => h2 q.1.2)]
  · rw [if_neg c, if_neg (fun q => c q.1.1)]
theorem Hh_of {h : Int32} (c : 0 ≤ h ∧ h ≤ 20) : Hh h := ⟨t_le.mp c.1, t_le.mp c.2⟩
theorem LO_at {n m : Nat} {f : Nat → Int32} (l : LO n f) (hm : m < n) (h : 0 ≤ f m) : ∃ b, b < 72 ∧ f m = nI b := by
  rcases l.1 m hm with e | e | e
  · rw [e] at h; exact absurd h (by decide)
  · rw [e] at h; exact absurd h (by decide)
  · exact e
theorem query_q {σ : St} (L : Lay σ) {n d : Nat} (g : gM σ n d) (gt : gT σ) (gb : gB σ) (m h : Int32) (fC fM : St → Option (Int32 × St)) (P : Nat → Int32)
    (hC : fC σ = if ((0 ≤ m ∧ m < sI σ 2 5) ∧ 0 ≤ sI σ 6 (ix m)) ∧ (0 ≤ h ∧ h ≤ 20) then some (P (ix m), σ) else some (-1, σ))
    (hM : fM σ = bd (f12_isAsked (wI σ 101 0 0) 101 m h) fun r4 t5 => if r4 = 0 then some (-1, t5) else some (P (ix m), t5)) : ∃ r, fC σ = some (r, σ) ∧ fM σ = some (r, wI σ 101 0 0) := by
  have hn0 : sI (wI σ 101 0 0) 101 5 = nI n := by rw [sI_wk (by decide)]; exact g.ri.1
  have n6 := g.ri.2.1
  rw [bd_s (isAsked_s (Lay_wI L) hn0 n6), ite_B, sI_wo (b := 109) (by decide)] at hM
  rw [g.sz] at hC
  by_cases c : 0 ≤ m ∧ m < nI n
  · obtain ⟨k, hk, rfl⟩ := inN rfl (by omega) c
    rw [ix_n (by omega)] at hC hM
    rw [g.li k hk] at hM
    by_cases c2 : ((0 ≤ nI k ∧ nI k < nI n) ∧ 0 ≤ sI σ 6 k) ∧ (0 ≤ h ∧ h ≤ 20)
    · rw [if_pos c2] at hC hM
      exact ⟨_, hC, hM⟩
    · rw [if_neg c2] at hC hM
      exact ⟨_, hC, hM⟩
  · rw [if_neg (fun q => c q.1.1)] at hC hM
    exact ⟨_, hC, hM⟩
theorem flow_q {σ : St} (L : Lay σ) {n d : Nat} (g : gM σ n d) (gt : gT σ) (gb : gB σ) (m h : Int32) : ∃ r, f11_flow σ 1 m h = some (r, σ) ∧ f12_flow σ 101 m h = some (r, wI σ 101 0 0) := by
  have n6 := g.ri.2.1
  refine query_q L g gt gb m h (fun σ => f11_flow σ 1 m h) (fun σ => f12_flow σ 101 m h) (fun k => flP σ n (sI σ 6) (ix (sI σ 6 k)) h) ?_ ?_
  · show f11_flow σ 1 m h = _
    unfold f11_flow
    rw [gd_t (oL1 L), lt_b, rL1_0 L, gd_t nz_s, gd_t (oL2 L), bd_s (liesAt_s L g), ite_B]
    by_cases c1 : (0 ≤ m ∧ m < sI σ 2 5) ∧ 0 ≤ sI σ 6 (ix m)
    · rw [if_pos c1, bd_s isHeight_s, ite_B]
      by_cases c2 : 0 ≤ h ∧ h ≤ 20
      · obtain ⟨k, hk, rfl⟩ := has_n L g c1.1
        have c3 := c1.2
        rw [ix_n (by omega)] at c3
        obtain ⟨b, hb, hat⟩ := LO_at g.lo hk c3
        rw [if_pos c2, if_pos ⟨c1, c2⟩, lt_b, rL1_0 L, gd_t nz_s, gd_t (oL2 L), lt_b, rL2_3 L, gd_t nz_s, ix_n (k := k) (by omega)]
        rw [flow_s L gt.1 g.sz n6 (oL6 L) (lL6 L) (by omega) hb hat, bd_1, hat, ix_n (k := b) (by omega)]; rfl
      · rw [if_neg c2, if_neg (fun q => c2 q.2)]
    · rw [if_neg c1, if_neg (fun q => c1 q.1)]
  · show f12_flow σ 101 m h = _
    have hn0 : sI (wI σ 101 0 0) 101 5 = nI n := by rw [sI_wk (by decide)]; exact g.ri.1
    have R : RiV σ (wI σ 101 0 0) n := RiV_Fr Fr0 (fun a k q1 q2 => by unfold W0 at q2; omega) (RiV_0 L g gt gb)
    have e109 : ∀ o, o < n → sI (wI σ 101 0 0) 109 o = sI σ 6 o := fun o ho => by rw [sI_wo (by decide)]; exact g.li o ho
    have hO : LO n (sI (wI σ 101 0 0) 109) := LO_congr e109 g.lo
    unfold f12_flow
    rw [gd_t (oL101 L), lt_b, bd_s (isAsked_s (Lay_wI L) hn0 n6), bd_s (isAsked_s (Lay_wI L) hn0 n6), ite_B, ite_B]
    by_cases c2 : ((0 ≤ m ∧ m < nI n) ∧ 0 ≤ sI (wI σ 101 0 0) 109 (ix m)) ∧ (0 ≤ h ∧ h ≤ 20)
    · obtain ⟨k, hk, rfl⟩ := inN rfl (by omega) c2.1.1
      rw [ix_n (k := k) (by omega), e109 k hk] at c2
      obtain ⟨b, hb, hat⟩ := LO_at g.lo hk c2.1.2
      rw [ix_n (k := k) (by omega), e109 k hk, if_pos c2, if_pos c2]
      rw [flowM_d R hk hb (by rw [sI_wo (by decide), g.li k hk]; exact hat) hO, bd_1, flP_cg e109, hat, ix_n (k := b) (by omega)]
    · rw [if_neg c2, if_neg c2]
theorem power_q {σ : St} (L : Lay σ) {n d : Nat} (g : gM σ n d) (gt : gT σ) (gb : gB σ) (m h : Int32) : ∃ r, f11_power σ 1 m h = some (r, σ) ∧ f12_power σ 101 m h = some (r, wI σ 101 0 0) := by
  have n6 := g.ri.2.1
  refine query_q L g gt gb m h (fun σ => f11_power σ 1 m h) (fun σ => f12_power σ 101 m h) (fun k => pwP σ n (sI σ 6) k h) ?_ ?_
  · show f11_power σ 1 m h = _
    unfold f11_power
    rw [gd_t (oL1 L), lt_b, rL1_0 L, gd_t nz_s, gd_t (oL2 L), bd_s (liesAt_s L g), ite_B]
    by_cases c1 : (0 ≤ m ∧ m < sI σ 2 5) ∧ 0 ≤ sI σ 6 (ix m)
    · rw [if_pos c1, bd_s isHeight_s, ite_B]
      by_cases c2 : 0 ≤ h ∧ h ≤ 20
      · obtain ⟨k, hk, rfl⟩ := has_n L g c1.1
        have c3 := c1.2
        rw [ix_n (by omega)] at c3
        obtain ⟨b, hb, hat⟩ := LO_at g.lo hk c3
        rw [if_pos c2, if_pos ⟨c1, c2⟩, lt_b, rL1_0 L, gd_t nz_s, gd_t (oL2 L), lt_b, rL2_3 L, gd_t nz_s, ix_n (k := k) (by omega)]
        rw [power_s L gt.1 g.sz n6 (oL6 L) (lL6 L) (by omega), bd_1]
      · rw [if_neg c2, if_neg (fun q => c2 q.2)]
    · rw [if_neg c1, if_neg (fun q => c1 q.1)]
  · show f12_power σ 101 m h = _
    have hn0 : sI (wI σ 101 0 0) 101 5 = nI n := by rw [sI_wk (by decide)]; exact g.ri.1
    have R : RiV σ (wI σ 101 0 0) n := RiV_Fr Fr0 (fun a k q1 q2 => by unfold W0 at q2; omega) (RiV_0 L g gt gb)
    have e109 : ∀ o, o < n → sI (wI σ 101 0 0) 109 o = sI σ 6 o := fun o ho => by rw [sI_wo (by decide)]; exact g.li o ho
    have hO : LO n (sI (wI σ 101 0 0) 109) := LO_congr e109 g.lo
    unfold f12_power
    rw [gd_t (oL101 L), lt_b, bd_s (isAsked_s (Lay_wI L) hn0 n6), bd_s (isAsked_s (Lay_wI L) hn0 n6), ite_B, ite_B]
    by_cases c2 : ((0 ≤ m ∧ m < nI n) ∧ 0 ≤ sI (wI σ 101 0 0) 109 (ix m)) ∧ (0 ≤ h ∧ h ≤ 20)
    · obtain ⟨k, hk, rfl⟩ := inN rfl (by omega) c2.1.1
      rw [ix_n (k := k) (by omega), e109 k hk] at c2
      obtain ⟨b, hb, hat⟩ := LO_at g.lo hk c2.1.2
      rw [ix_n (k := k) (by omega), e109 k hk, if_pos c2, if_pos c2]
      rw [powM_d R hk (by rw [sI_wo (by decide), g.li k hk]; exact c2.1.2) hO (Hh_of c2.2), bd_1, pwP_cg hk e109]
    · rw [if_neg c2, if_neg c2]
theorem pull_q {σ : St} (L : Lay σ) {n d : Nat} (g : gM σ n d) (gt : gT σ) (gb : gB σ) (m h ice : Int32) : ∃ r, f11_pull σ 1 m h ice = some (r, σ) ∧ f12_pull σ 101 m h ice = some (r, wI σ 101 0 0) := by
  have n6 := g.ri.2.1
  refine query_q L g gt gb m h (fun σ => f11_pull σ 1 m h ice) (fun σ => f12_pull σ 101 m h ice) (fun k => plP σ n (sI σ 6) k h ice) ?_ ?_
  · show f11_pull σ 1 m h ice = _
    unfold f11_pull
    rw [gd_t (oL1 L), lt_b, rL1_0 L, gd_t nz_s, gd_t (oL2 L), bd_s (liesAt_s L g), ite_B]
    by_cases c1 : (0 ≤ m ∧ m < sI σ 2 5) ∧ 0 ≤ sI σ 6 (ix m)
    · rw [if_pos c1, bd_s isHeight_s, ite_B]
      by_cases c2 : 0 ≤ h ∧ h ≤ 20
      · obtain ⟨k, hk, rfl⟩ := has_n L g c1.1
        have c3 := c1.2
        rw [ix_n (by omega)] at c3
        obtain ⟨b, hb, hat⟩ := LO_at g.lo hk c3
        rw [if_pos c2, if_pos ⟨c1, c2⟩, lt_b, rL1_0 L, gd_t nz_s, gd_t (oL2 L), lt_b, rL2_3 L, gd_t nz_s, ix_n (k := k) (by omega)]
        rw [pull_s L gt.1 g.sz n6 (oL6 L) (lL6 L) (by omega), bd_1]
      · rw [if_neg c2, if_neg (fun q => c2 q.2)]
    · rw [if_neg c1, if_neg (fun q => c1 q.1)]
  · show f12_pull σ 101 m h ice = _
    have hn0 : sI (wI σ 101 0 0) 101 5 = nI n := by rw [sI_wk (by decide)]; exact g.ri.1
    have R : RiV σ (wI σ 101 0 0) n := RiV_Fr Fr0 (fun a k q1 q2 => by unfold W0 at q2; omega) (RiV_0 L g gt gb)
    have e109 : ∀ o, o < n → sI (wI σ 101 0 0) 109 o = sI σ 6 o := fun o ho => by rw [sI_wo (by decide)]; exact g.li o ho
    have hO : LO n (sI (wI σ 101 0 0) 109) := LO_congr e109 g.lo
    unfold f12_pull
    rw [gd_t (oL101 L), lt_b, bd_s (isAsked_s (Lay_wI L) hn0 n6), bd_s (isAsked_s (Lay_wI L) hn0 n6), ite_B, ite_B]
    by_cases c2 : ((0 ≤ m ∧ m < nI n) ∧ 0 ≤ sI (wI σ 101 0 0) 109 (ix m)) ∧ (0 ≤ h ∧ h ≤ 20)
    · obtain ⟨k, hk, rfl⟩ := inN rfl (by omega) c2.1.1
      rw [ix_n (k := k) (by omega), e109 k hk] at c2
      obtain ⟨b, hb, hat⟩ := LO_at g.lo hk c2.1.2
      rw [ix_n (k := k) (by omega), e109 k hk, if_pos c2, if_pos c2]
      rw [pulM_d R hk (by rw [sI_wo (by decide), g.li k hk]; exact c2.1.2) hO (Hh_of c2.2), bd_1, plP_cg hk e109]
    · rw [if_neg c2, if_neg c2]
