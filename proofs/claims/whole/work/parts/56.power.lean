/-! POWER AND PULL in the class -/
def wrF (s : Int32) : Int32 := if 100 ≤ s / 5 then 100 else s / 5
theorem worn_s {σ : St} (L : Lay σ) {m : Nat} (hm : m < 6) : f0_worn σ (29 + m) = some (wrF (sI σ (29 + m) 3), σ) := by
  unfold f0_worn
  rw [gd_t (oboat L hm), bd_s min_s]
  rfl
def flP (δ : St) (n : Nat) (f : Nat → Int32) (b : Nat) (h : Int32) : Int32 := flF n (valT δ (b / 12) h) (whF δ) f (nI b)
/-- POWER of mill m where f has it -/
def pwP (δ : St) (n : Nat) (f : Nat → Int32) (m : Nat) (h : Int32) : Int32 :=
  if 0 ≤ f m ∧ f m < 72 then (if dpF (sI δ 3 (ix (f m))) h < sI δ (29 + m) 0 then 0 else valT δ 6 (flP δ n f (ix (f m)) h) * (100 - wrF (sI δ (29 + m) 3)) / 100) else 0
def plP (δ : St) (n : Nat) (f : Nat → Int32) (m : Nat) (h ice : Int32) : Int32 :=
  if 0 ≤ f m ∧ f m < 72 then (if dpF (sI δ 3 (ix (f m))) h < sI δ (29 + m) 0 then 0 else if ice = 0 then flP δ n f (ix (f m)) h * (20 + whF δ m) / 20 else 2 * (flP δ n f (ix (f m)) h * (20 + whF δ m) / 20)) else 0
theorem in72 {x : Int32} (h : 0 ≤ x ∧ x < 72) : ∃ b, b < 72 ∧ x = nI b := by
  obtain ⟨b, hb, rfl⟩ := nI_of (Int32.not_lt.mpr h.1)
  refine ⟨b, ?_, rfl⟩
  have := (nI_ltI (b := 72) hb (by decide)).mp h.2
  exact this
theorem in72n {b : Nat} (h : b < 72) : 0 ≤ nI b ∧ nI b < 72 := ⟨nI_pos' (by omega), nI_lt (b := 72) h (by decide)⟩
theorem power_s {σ : St} (L : Lay σ) (V : VT σ) {n a m : Nat} {h : Int32} (hn : sI σ 2 5 = nI n) (hn6 : n ≤ 6) (ha : ob σ a 14 = true) (hl : (sK σ a).2 = 6) (hm : m < 6) :
    f8_powerHad σ 2 (nI m) a h = some (pwP σ n (sI σ a) m h, σ) := by
  unfold f8_powerHad pwP
  rw [gd_t ha, gd_t (inb_n hl hm (by decide)), ix_n (by omega), bd_s isBerth_s]
  by_cases h1 : 0 ≤ sI σ a m ∧ sI σ a m < 72
  · obtain ⟨b, hb, hat⟩ := in72 h1
    rw [if_pos h1, if_pos h1, if_neg (by decide), gd_t (oL2 L), hat, bd_s (bears_s L hb hm), ix_n (by omega)]
    by_cases h2 : dpF (sI σ 3 b) h < sI σ (29 + m) 0
    · rw [if_pos h2, if_pos h2, if_pos rfl]
    · rw [if_neg h2, if_neg h2, if_neg (by decide), lt_b, rL2_1 L, gd_t nz_s, gd_t (oL4 L), show (6 : Int32) = nI 6 from rfl, gd_t (inb_n (lL4 L) (by decide) (by decide)), lt_b, ix_n (by omega), rL4_6 L, gd_t nz_s, bd_s (flow_s L V hn hn6 ha hl hm hb hat), gd_t (oL26 L),
        bd_s (at_v L V (t := 6) (by decide)), lt_b, rL2_2 L, gd_t nz_s, gd_t (oL5 L), gd_t (inb_n (lL5 L) hm (by decide)), lt_b, (lay_boat L hm).1, gd_t (nz_t (by omega)), gd_t (oboat L hm), bd_s (worn_s L hm)]
      rfl
  · rw [if_neg h1, if_neg h1, if_pos rfl]
theorem pull_s {σ : St} (L : Lay σ) (V : VT σ) {n a m : Nat} {h ice : Int32} (hn : sI σ 2 5 = nI n) (hn6 : n ≤ 6) (ha : ob σ a 14 = true) (hl : (sK σ a).2 = 6) (hm : m < 6) :
    f8_pullBorne σ 2 (nI m) a h ice = some (plP σ n (sI σ a) m h ice, σ) := by
  unfold f8_pullBorne plP
  rw [gd_t ha, gd_t (inb_n hl hm (by decide)), ix_n (by omega), bd_s isBerth_s]
  by_cases h1 : 0 ≤ sI σ a m ∧ sI σ a m < 72
  · obtain ⟨b, hb, hat⟩ := in72 h1
    rw [if_pos h1, if_pos h1, if_neg (by decide), gd_t (oL2 L), hat, bd_s (bears_s L hb hm), ix_n (by omega)]
    by_cases h2 : dpF (sI σ 3 b) h < sI σ (29 + m) 0
    · rw [if_pos h2, if_pos h2, if_pos rfl]
    · rw [if_neg h2, if_neg h2, if_neg (by decide), bd_s (flow_s L V hn hn6 ha hl hm hb hat), lt_b, rL2_2 L, gd_t nz_s, gd_t (oL5 L), gd_t (inb_n (lL5 L) hm (by decide)), lt_b, (lay_boat L hm).1, gd_t (nz_t (by omega)), gd_t (oboat L hm), lt_b]
      by_cases h3 : ice = 0
      · rw [if_pos h3, if_pos h3]; rfl
      · rw [if_neg h3, if_neg h3]; rfl
  · rw [if_neg h1, if_neg h1, if_pos rfl]
