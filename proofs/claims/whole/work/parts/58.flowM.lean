/-- a step of the reference's loop over the stretches ahead: what is left of the flow behind `back - 1` of them -/
def mtF (val : Int32) (wh f : Nat → Int32) (n b : Nat) : Nat → Int32
  | 0 => val
  | k + 1 => mtF val wh f n b k - tbF val wh f n b (k + 1)
theorem mtF_end {val : Int32} {wh f : Nat → Int32} {n b : Nat} (h : LO n f) (hn : n ≤ 6) (hb : b < 72) : mx0 (mtF val wh f n b 3) = flF n val wh f (nI b) := by
  unfold flF
  rw [flF_sum h hn hb]
  congr 1
  show val - _ - _ - _ = _
  rw [i_sub2, i_sub2, Int32.add_assoc]
theorem p96 {σ : St} {v : Int32} : f12_flowOf_p96 σ v = some (mx0 v, σ) := by
  unfold f12_flowOf_p96 mx0
  by_cases h : v ≤ 0
  · rw [if_pos h, if_neg (Int32.not_lt.mpr h)]
  · rw [if_neg h, if_pos (Int32.not_le.mp h)]
theorem flowOf_l {σ : St} (L : Lay σ) {n m b : Nat} {val : Int32} (hn : sI σ 101 5 = nI n) (hn6 : n ≤ 6) (hm : m < 6) (hb : b < 72) (hat : sI σ 109 m = nI b) : ∀ (j k fuel : Nat), k + j = 3 → j < fuel →
    (∀ i, k < i → i ≤ 3 → True) → f12_flowOf_p25 fuel σ 101 (nI m) val (mtF val (sI σ 107) (sI σ 109) n b k) (nI (k + 1)) = some (mx0 (mtF val (sI σ 107) (sI σ 109) n b 3), σ) := by
  intro j
  induction j with
  | zero =>
    intro k fuel hk hf _
    obtain ⟨f, rfl, -⟩ := suc_of hf
    have : k = 3 := by omega
    subst this
    rw [f12_flowOf_p25, if_neg (by decide), p96]
  | succ j ih =>
    intro k fuel hk hf ht
    obtain ⟨f, rfl, hf2⟩ := suc_of hf
    have c3 : nI (k + 1) ≤ 3 := nI_le (a := k + 1) (b := 3) (by omega) (by decide)
    rw [f12_flowOf_p25, if_pos c3, gd_t (oL101 L), lt_b, rL101_9 L, gd_t nz_s, gd_t (oL109 L), gd_t (inb_n (lL109 L) hm (by decide)), ix_n (by omega), hat, n_mod12 (by omega)]
    by_cases c : k + 1 ≤ b % 12
    · rw [if_pos (nI_le c (by omega)), pk_sub (by omega), bd_s (millAt_s L hn hn6)]
      have et : mtF val (sI σ 107) (sI σ 109) n b (k + 1) = mtF val (sI σ 107) (sI σ 109) n b k - tbF val (sI σ 107) (sI σ 109) n b (k + 1) := rfl
      unfold tbF at et
      rw [if_pos c] at et
      by_cases d : lyF (sI σ 109) (nI (b - (k + 1))) n 0 = -1
      · rw [if_pos d]
        rw [if_pos d, Int32.sub_zero] at et
        unfold f12_flowOf_p90
        rw [lt_b, nI_1, ← et]
        exact ih (k + 1) f (by omega) (by omega) (fun _ _ _ => trivial)
      · rw [if_neg d]
        rw [if_neg d] at et
        rcases lyF_sp (f := sI σ 109) (b := nI (b - (k + 1))) n 0 with ⟨h1, -⟩ | ⟨o, h1, h2, h3, -, -⟩
        · exact absurd h1 d
        · rw [h3] at et ⊢
          rw [ix_n (by omega)] at et
          rw [lt_b, rL101_7 L, gd_t nz_s, gd_t (oL107 L), gd_t (inb_n (lL107 L) (by omega) (by decide)), lt_b, ix_n (by omega), ← et]
          unfold f12_flowOf_p90
          rw [lt_b, nI_1]
          exact ih (k + 1) f (by omega) (by omega) (fun _ _ _ => trivial)
    · rw [if_neg (fun e => c ((nI_leI (by omega) (by omega)).mp e)), p96]
      have tz : ∀ i, k + 1 ≤ i → tbF val (sI σ 107) (sI σ 109) n b i = 0 := fun i hi => if_neg (by omega)
      have st : ∀ i, k ≤ i → mtF val (sI σ 107) (sI σ 109) n b (i + 1) = mtF val (sI σ 107) (sI σ 109) n b i := fun i hi => by
        show _ - tbF _ _ _ _ _ _ = _
        rw [tz (i + 1) (by omega), Int32.sub_zero]
      have : k = 0 ∨ k = 1 ∨ k = 2 := by omega
      rcases this with rfl | rfl | rfl
      · rw [← st 0 (by omega), ← st 1 (by omega), ← st 2 (by omega)]
      · rw [← st 1 (by omega), ← st 2 (by omega)]
      · rw [← st 2 (by omega)]
theorem flowOf_s {σ : St} (L : Lay σ) {n m b : Nat} {val h : Int32} (hn : sI σ 101 5 = nI n) (hn6 : n ≤ 6) (hm : m < 6) (hb : b < 72) (hat : sI σ 109 m = nI b) (hO : LO n (sI σ 109)) (hv : f12_valueOf σ 101 (nI (b / 12)) h = some (val, σ)) :
    f12_flowOf σ 101 (nI m) h = some (flF n val (sI σ 107) (sI σ 109) (nI b), σ) := by
  unfold f12_flowOf
  rw [gd_t (oL101 L), lt_b, rL101_9 L, gd_t nz_s, gd_t (oL109 L), gd_t (inb_n (lL109 L) hm (by decide)), lt_b, ix_n (by omega), hat, n_div12 (by omega), bd_s hv]
  have := flowOf_l L (n := n) (m := m) (b := b) (val := val) hn hn6 hm hb hat 3 0 FU (by omega) (by unfold FU; omega) (fun _ _ _ => trivial)
  rw [mtF_end hO hn6 hb] at this
  exact this
/-- the reference's tables, beds and mills are δ's -/
def RiT (δ σ : St) : Prop := ∀ t, t < 7 → sI σ 103 t = nI (tn δ t) ∧ ∀ k, k < 8 → sI σ 104 (8 * t + k) = sI δ (9 + 3 * t) k ∧ sI σ 105 (8 * t + k) = sI δ (10 + 3 * t) k
def RiB (δ σ : St) : Prop := ∀ b, b < 72 → sI σ 102 b = sI δ 3 b
def RiM (δ σ : St) (n : Nat) : Prop := sI σ 101 5 = nI n ∧ n ≤ 6 ∧ ∀ m, m < n → sI σ 106 m = sI δ (29 + m) 0 ∧ sI σ 107 m = sI δ (29 + m) 1 ∧ sI σ 108 m = sI δ (29 + m) 2 ∧ sI σ 110 m = sI δ (29 + m) 3 ∧ sI σ 111 m = sI δ (29 + m) 4 ∧ sI σ 112 m = sI δ (29 + m) 5 ∧ sI σ 113 m = sI δ (29 + m) 6
def VB (δ : St) : Prop := ∀ b, b < 72 → 0 ≤ (sI δ 3 b).toInt ∧ (sI δ 3 b).toInt ≤ 20
def Hh (h : Int32) : Prop := 0 ≤ h.toInt ∧ h.toInt ≤ 20
theorem valueOf_d {δ σ : St} (L : Lay σ) (V : VT δ) (R : RiT δ σ) {t : Nat} {x : Int32} (ht : t < 7) : f12_valueOf σ 101 (nI t) x = some (valT δ t x, σ) :=
  valueOf_s L ht (V t ht).2 (fun k hk => ((R t ht).2 k hk).1) (fun k hk => ((R t ht).2 k hk).2) (R t ht).1
theorem flF_wh {n : Nat} {val b : Int32} {wh wg f : Nat → Int32} (h : ∀ o, o < n → wh o = wg o) : flF n val wh f b = flF n val wg f b := by
  unfold flF
  rw [smF_congr n (fun o ho => by show shF val (wh o) (f o) b = shF val (wg o) (f o) b; rw [h o ho])]
theorem flowOf_d {δ σ : St} (L : Lay σ) (V : VT δ) (R : RiT δ σ) {n m b : Nat} (hM : RiM δ σ n) {h : Int32} (hm : m < n) (hb : b < 72) (hat : sI σ 109 m = nI b) (hO : LO n (sI σ 109)) : f12_flowOf σ 101 (nI m) h = some (flP δ n (sI σ 109) b h, σ) := by
  have h6 := hM.2.1
  rw [flowOf_s L hM.1 h6 (by omega) hb hat hO (valueOf_d L V R (by omega))]
  unfold flP
  rw [flF_wh (wg := whF δ) (fun o ho => (hM.2.2 o ho).2.1)]
theorem depthM_d {δ σ : St} (L : Lay σ) (B : VB δ) (R : RiB δ σ) {b : Nat} {h : Int32} (hb : b < 72) (hh : Hh h) : f12_depth σ 101 (nI b) h = some (dpF (sI δ 3 b) h, σ) := by
  unfold f12_depth dpF
  rw [gd_t (oL101 L), lt_b, rL101_1 L, gd_t nz_s, gd_t (oL102 L), gd_t (inb_n (lL102 L) hb (by decide)), ix_n (by omega), R b hb]
  have hB := B b hb
  have e : (h - sI δ 3 b).toInt = h.toInt - (sI δ 3 b).toInt := t_sub (by unfold Hh at hh; omega) (by unfold Hh at hh; omega)
  have hz : (0 : Int32).toInt = 0 := rfl
  have c1 : h ≤ sI δ 3 b ↔ h.toInt ≤ (sI δ 3 b).toInt := t_le
  have c2 : h - sI δ 3 b < 0 ↔ h.toInt - (sI δ 3 b).toInt < 0 := by rw [t_lt, e, hz]
  by_cases h1 : h ≤ sI δ 3 b
  · rw [if_pos h1]
    by_cases h2 : h - sI δ 3 b < 0
    · rw [if_pos h2]
    · rw [if_neg h2]
      have : h - sI δ 3 b = 0 := by rw [t_eq, e, hz]; have q1 := c1.mp h1; have q2 : ¬ (h.toInt - (sI δ 3 b).toInt < 0) := fun q => h2 (c2.mpr q); omega
      rw [this]
  · rw [if_neg h1, if_neg (fun q => h1 (c1.mpr (by have := c2.mp q; omega)))]
theorem floats_d {δ σ : St} (L : Lay σ) (B : VB δ) (R : RiB δ σ) {n m b : Nat} (hM : RiM δ σ n) {h : Int32} (hm : m < n) (hb : b < 72) (hat : sI σ 109 m = nI b) (hh : Hh h) : f12_floats σ 101 (nI m) h = some (if dpF (sI δ 3 b) h < sI δ (29 + m) 0 then 0 else 1, σ) := by
  have h6 := hM.2.1
  unfold f12_floats
  rw [gd_t (oL101 L), lt_b, rL101_9 L, gd_t nz_s, gd_t (oL109 L), gd_t (inb_n (lL109 L) (by omega) (by decide)), ix_n (by omega), hat, bd_s (depthM_d L B R hb hh), lt_b, rL101_6 L, gd_t nz_s, gd_t (oL106 L), gd_t (inb_n (lL106 L) (by omega) (by decide)), (hM.2.2 m hm).1]
  by_cases h9 : dpF (sI δ 3 b) h < sI δ (29 + m) 0
  · rw [if_pos h9, if_pos h9]
  · rw [if_neg h9, if_neg h9]
theorem wornM_d {δ σ : St} (L : Lay σ) {n m : Nat} (hM : RiM δ σ n) (hm : m < n) : f12_worn σ 101 (nI m) = some (wrF (sI δ (29 + m) 3), σ) := by
  have h6 := hM.2.1
  unfold f12_worn wrF
  rw [gd_t (oL101 L), lt_b, rL101_10 L, gd_t nz_s, gd_t (oL110 L), gd_t (inb_n (lL110 L) (by omega) (by decide)), ix_n (by omega), (hM.2.2 m hm).2.2.2.1]
  by_cases h1 : sI δ (29 + m) 3 / 5 ≤ 100
  · rw [if_pos h1]
    by_cases h2 : 100 ≤ sI δ (29 + m) 3 / 5
    · rw [if_pos h2]
      have : sI δ (29 + m) 3 / 5 = 100 := by rw [t_eq]; rw [t_le] at h1 h2; omega
      rw [this]
    · rw [if_neg h2]
  · rw [if_neg h1, if_pos (by rw [t_le] at h1 ⊢; omega)]
theorem powerOf_d {δ σ : St} (L : Lay σ) (V : VT δ) (R : RiT δ σ) (B : VB δ) (RB : RiB δ σ) {n m : Nat} (hM : RiM δ σ n) {h : Int32} (hm : m < n) (hat : 0 ≤ sI σ 109 m) (hO : LO n (sI σ 109)) (hh : Hh h) : f12_powerOf σ 101 (nI m) h = some (pwP δ n (sI σ 109) m h, σ) := by
  have h6 := hM.2.1
  obtain ⟨b, hb, hat⟩ : ∃ b, b < 72 ∧ sI σ 109 m = nI b := by
    rcases hO.1 m hm with e | e | e
    · rw [e] at hat; exact absurd hat (by decide)
    · rw [e] at hat; exact absurd hat (by decide)
    · exact e
  unfold f12_powerOf pwP
  rw [gd_t (oL101 L), bd_s (floats_d L B RB hM hm hb hat hh), hat, if_pos (in72n hb), ix_n (by omega)]
  by_cases h2 : dpF (sI δ 3 b) h < sI δ (29 + m) 0
  · rw [if_pos h2, if_pos h2, if_pos rfl]
  · rw [if_neg h2, if_neg h2, if_neg (by decide), bd_s (flowOf_d L V R hM hm hb hat hO), show (6 : Int32) = nI 6 from rfl, bd_s (valueOf_d L V R (by decide)), bd_s (wornM_d L hM hm)]
theorem pullOf_d {δ σ : St} (L : Lay σ) (V : VT δ) (R : RiT δ σ) (B : VB δ) (RB : RiB δ σ) {n m : Nat} (hM : RiM δ σ n) {h ice : Int32} (hm : m < n) (hat : 0 ≤ sI σ 109 m) (hO : LO n (sI σ 109)) (hh : Hh h) : f12_pullOf σ 101 (nI m) h ice = some (plP δ n (sI σ 109) m h ice, σ) := by
  have h6 := hM.2.1
  obtain ⟨b, hb, hat⟩ : ∃ b, b < 72 ∧ sI σ 109 m = nI b := by
    rcases hO.1 m hm with e | e | e
    · rw [e] at hat; exact absurd hat (by decide)
    · rw [e] at hat; exact absurd hat (by decide)
    · exact e
  unfold f12_pullOf plP
  rw [gd_t (oL101 L), bd_s (floats_d L B RB hM hm hb hat hh), hat, if_pos (in72n hb), ix_n (k := m) (by omega), ix_n (k := b) (by omega)]
  by_cases h2 : dpF (sI δ 3 b) h < sI δ (29 + m) 0
  · rw [if_pos h2, if_pos h2, if_pos rfl]
  · rw [if_neg h2, if_neg h2, if_neg (by decide), bd_s (flowOf_d L V R hM hm hb hat hO), lt_b, rL101_7 L, gd_t nz_s, gd_t (oL107 L), gd_t (inb_n (lL107 L) (by omega) (by decide)), lt_b, (hM.2.2 m hm).2.1]
    by_cases h3 : ice = 0
    · rw [if_pos h3, if_pos h3]; rfl
    · rw [if_neg h3, if_neg h3]; rfl
