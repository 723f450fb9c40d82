/-! WHAT POWER CAN'T BE ABOVE, whatever mills come to lie ahead -/
def MS (n : Nat) (f g : Nat → Int32) : Prop := ∀ o, o < n → 0 ≤ f o → g o = f o
theorem sh_rg {val w x : Int32} {b : Nat} (hv : 0 ≤ val.toInt ∧ val.toInt ≤ 400) (hw : 0 ≤ w.toInt ∧ w.toInt ≤ 90) (hb : b < 72) (hx : x = -2 ∨ x = -1 ∨ ∃ u, u < 72 ∧ x = nI u) : 0 ≤ (shF val w x (nI b)).toInt ∧ (shF val w x (nI b)).toInt ≤ 270 := by
  have z : (0 : Int32).toInt = 0 := rfl
  unfold shF
  rcases hx with rfl | rfl | ⟨u, hu, rfl⟩
  · rw [if_pos (by decide)]; omega
  · rw [if_pos (by decide)]; omega
  · rw [if_neg (nI_pos (by omega))]
    by_cases c1 : nI u / 12 = nI b / 12
    · rw [if_pos c1]
      have e0 : (nI b - nI u).toInt = (b : Int) - u := pk_sub_toInt (by omega) (by omega)
      by_cases c2 : nI b - nI u < 1
      · rw [if_pos c2]; omega
      · rw [if_neg c2]
        by_cases c3 : nI b - nI u ≤ 3
        · rw [if_pos c3]
          rw [t_lt, e0] at c2
          rw [t_le, e0] at c3
          have o1 : (1 : Int32).toInt = 1 := rfl
          have o3 : (3 : Int32).toInt = 3 := rfl
          have o4 : (4 : Int32).toInt = 4 := rfl
          have o400 : (400 : Int32).toInt = 400 := rfl
          have s1 : (4 - (nI b - nI u)).toInt = 4 - ((b : Int) - u) := by rw [t_sub (by rw [e0, o4]; omega) (by rw [e0, o4]; omega), e0, o4]
          have p0 : 0 ≤ val.toInt * w.toInt := Int.mul_nonneg hv.1 hw.1
          have p1 : val.toInt * w.toInt ≤ 400 * 90 := Int.mul_le_mul hv.2 hw.2 hw.1 (by omega)
          have s2 : (val * w).toInt = val.toInt * w.toInt := t_mul (by omega) (by omega)
          have q0 : 0 ≤ val.toInt * w.toInt * (4 - ((b : Int) - u)) := Int.mul_nonneg p0 (by omega)
          have q1 : val.toInt * w.toInt * (4 - ((b : Int) - u)) ≤ 400 * 90 * 3 := Int.mul_le_mul p1 (by omega) (by omega) (by omega)
          have s3 : (val * w * (4 - (nI b - nI u))).toInt = val.toInt * w.toInt * (4 - ((b : Int) - u)) := by rw [t_mul (by rw [s2, s1]; omega) (by rw [s2, s1]; omega), s2, s1]
          have s4 : (val * w * (4 - (nI b - nI u)) / 400).toInt = val.toInt * w.toInt * (4 - ((b : Int) - u)) / 400 := by
            rw [t_div (by decide), s3, o400]
            exact Int.tdiv_eq_ediv_of_nonneg q0
          rw [s4]
          exact ⟨Int.ediv_nonneg q0 (by decide), by omega⟩
        · rw [if_neg c3]; omega
    · rw [if_neg c1]; omega
theorem sm_mo {g g' : Nat → Int32} : ∀ n, n ≤ 6 → (∀ o, o < n → 0 ≤ (g o).toInt ∧ (g o).toInt ≤ (g' o).toInt ∧ (g' o).toInt ≤ 270) → 0 ≤ (smF g n).toInt ∧ (smF g n).toInt ≤ (smF g' n).toInt ∧ (smF g' n).toInt ≤ 270 * n := by
  intro n
  induction n with
  | zero =>
    intro _ _
    have z : (0 : Int32).toInt = 0 := rfl
    unfold smF
    rw [z]
    omega
  | succ n ih =>
    intro hn h
    obtain ⟨a1, a2, a3⟩ := ih (by omega) (fun o ho => h o (by omega))
    obtain ⟨b1, b2, b3⟩ := h n (by omega)
    unfold smF
    rw [t_add (by omega) (by omega), t_add (by omega) (by omega)]
    omega
theorem mx0_t {x : Int32} : (mx0 x).toInt = if 0 < x.toInt then x.toInt else 0 := by
  unfold mx0
  have z : (0 : Int32).toInt = 0 := rfl
  by_cases h : 0 < x
  · rw [if_pos h]; rw [t_lt, z] at h; rw [if_pos h]
  · rw [if_neg h]; rw [t_lt, z] at h; rw [if_neg h, z]
theorem fl_mo {n b : Nat} {val : Int32} {wh f g : Nat → Int32} (hv : 0 ≤ val.toInt ∧ val.toInt ≤ 400) (hw : ∀ o, o < n → 0 ≤ (wh o).toInt ∧ (wh o).toInt ≤ 90) (hn : n ≤ 6) (hb : b < 72) (lf : ∀ m, m < n → f m = -2 ∨ f m = -1 ∨ ∃ u, u < 72 ∧ f m = nI u) (lg : ∀ m, m < n → g m = -2 ∨ g m = -1 ∨ ∃ u, u < 72 ∧ g m = nI u) (ms : MS n f g) : 0 ≤ (flF n val wh g (nI b)).toInt ∧ (flF n val wh g (nI b)).toInt ≤ (flF n val wh f (nI b)).toInt ∧ (flF n val wh f (nI b)).toInt ≤ 400 := by
  have z : (0 : Int32).toInt = 0 := rfl
  obtain ⟨s1, s2, s3⟩ := sm_mo (g := fun o => shF val (wh o) (f o) (nI b)) (g' := fun o => shF val (wh o) (g o) (nI b)) n hn (fun o ho => by
    have r1 := sh_rg hv (hw o ho) hb (lf o ho)
    have r2 := sh_rg hv (hw o ho) hb (lg o ho)
    refine ⟨r1.1, ?_, r2.2⟩
    by_cases c : 0 ≤ f o
    · show (shF val (wh o) (f o) (nI b)).toInt ≤ (shF val (wh o) (g o) (nI b)).toInt
      rw [ms o ho c]; exact Int.le_refl _
    · have : shF val (wh o) (f o) (nI b) = 0 := by
        unfold shF
        rw [if_pos (show f o < 0 from Int32.not_le.mp c)]
      show (shF val (wh o) (f o) (nI b)).toInt ≤ _
      rw [this, z]
      exact r2.1)
  unfold flF
  generalize smF (fun o => shF val (wh o) (f o) (nI b)) n = x at s1 s2
  generalize smF (fun o => shF val (wh o) (g o) (nI b)) n = y at s2 s3
  have e1 : (val - x).toInt = val.toInt - x.toInt := t_sub (by omega) (by omega)
  have e2 : (val - y).toInt = val.toInt - y.toInt := t_sub (by omega) (by omega)
  rw [mx0_t, mx0_t, e1, e2]
  refine ⟨?_, ?_, ?_⟩ <;> repeat' (first | omega | split)
/-- a power of 100 - w of a hundred -/
theorem sc_mo {v v' w : Int32} (h : 0 ≤ v.toInt ∧ v.toInt ≤ v'.toInt ∧ v'.toInt ≤ 400) (hw : 0 ≤ w.toInt ∧ w.toInt ≤ 100) : 0 ≤ (v * (100 - w) / 100).toInt ∧ (v * (100 - w) / 100).toInt ≤ (v' * (100 - w) / 100).toInt ∧ (v' * (100 - w) / 100).toInt ≤ 400 := by
  have e100 : (100 : Int32).toInt = 100 := rfl
  have s1 : (100 - w).toInt = 100 - w.toInt := by rw [t_sub (by rw [e100]; omega) (by rw [e100]; omega), e100]
  have go : ∀ x : Int32, 0 ≤ x.toInt → x.toInt ≤ 400 → (x * (100 - w) / 100).toInt = x.toInt * (100 - w.toInt) / 100 ∧ 0 ≤ x.toInt * (100 - w.toInt) ∧ x.toInt * (100 - w.toInt) ≤ 400 * 100 := fun x h0 h4 => by
    have b0 : 0 ≤ x.toInt * (100 - w.toInt) := Int.mul_nonneg h0 (by omega)
    have b1 : x.toInt * (100 - w.toInt) ≤ 400 * 100 := Int.mul_le_mul h4 (by omega) (by omega) (by omega)
    have s2 : (x * (100 - w)).toInt = x.toInt * (100 - w.toInt) := by rw [t_mul (by rw [s1]; omega) (by rw [s1]; omega), s1]
    refine ⟨?_, b0, b1⟩
    rw [t_div (by decide), s2, e100]
    exact Int.tdiv_eq_ediv_of_nonneg b0
  obtain ⟨a1, a2, a3⟩ := go v h.1 (by omega)
  obtain ⟨b1, b2, b3⟩ := go v' (by omega) h.2.2
  have m : v.toInt * (100 - w.toInt) ≤ v'.toInt * (100 - w.toInt) := Int.mul_le_mul_of_nonneg_right h.2.1 (by omega)
  rw [a1, b1]
  exact ⟨Int.ediv_nonneg a2 (by decide), Int.ediv_le_ediv (by decide) m, by omega⟩
theorem wr_rg {s : Int32} (hs : 0 ≤ s.toInt) : 0 ≤ (wrF s).toInt ∧ (wrF s).toInt ≤ 100 := by
  have q5 : (s / 5).toInt = s.toInt / 5 := by
    rw [t_div (by decide)]
    exact Int.tdiv_eq_ediv_of_nonneg hs
  unfold wrF
  by_cases c3 : 100 ≤ s / 5
  · rw [if_pos c3]; decide
  · rw [if_neg c3]
    rw [t_le] at c3
    rw [q5] at c3 ⊢
    have e100 : (100 : Int32).toInt = 100 := rfl
    rw [e100] at c3
    exact ⟨Int.ediv_nonneg hs (by decide), by omega⟩
def tqF (δ : St) (n : Nat) (f : Nat → Int32) (m : Nat) (h : Int32) : Int32 :=
  if 0 ≤ f m ∧ f m < 72 then (if dpF (sI δ 3 (ix (f m))) h < sI δ (29 + m) 0 then 0 else tuF (tn δ 6) (sI δ (9 + 3 * 6)) (sI δ (10 + 3 * 6)) (flP δ n f (ix (f m)) h) * (100 - wrF (sI δ (29 + m) 3)) / 100) else 0
theorem topPower_s {σ : St} (L : Lay σ) (V : VT σ) {n a m : Nat} {h : Int32} (hn : sI σ 2 5 = nI n) (hn6 : n ≤ 6) (ha : ob σ a 14 = true) (hl : (sK σ a).2 = 6) (hm : m < 6) :
    f8_topPower σ 2 (nI m) a h = some (tqF σ n (sI σ a) m h, σ) := by
  unfold f8_topPower tqF
  rw [gd_t ha, gd_t (inb_n hl hm (by decide)), ix_n (by omega), bd_s isBerth_s]
  by_cases h1 : 0 ≤ sI σ a m ∧ sI σ a m < 72
  · obtain ⟨b, hb, hat⟩ := in72 h1
    rw [if_pos h1, if_pos h1, if_neg (by decide), gd_t (oL2 L), hat, bd_s (bears_s L hb hm), ix_n (by omega)]
    by_cases h2 : dpF (sI σ 3 b) h < sI σ (29 + m) 0
    · rw [if_pos h2, if_pos h2, if_pos rfl]
    · rw [if_neg h2, if_neg h2, if_neg (by decide), lt_b, rL2_1 L, gd_t nz_s, gd_t (oL4 L), show (6 : Int32) = nI 6 from rfl, gd_t (inb_n (lL4 L) (by decide) (by decide)), lt_b, ix_n (by omega), rL4_6 L, gd_t nz_s, bd_s (flow_s L V hn hn6 ha hl hm hb hat), gd_t (oL26 L),
        bd_s (topUpTo_s L V (t := 6) (by decide) _), lt_b, rL2_2 L, gd_t nz_s, gd_t (oL5 L), gd_t (inb_n (lL5 L) hm (by decide)), lt_b, (lay_boat L hm).1, gd_t (nz_t (by omega)), gd_t (oboat L hm), bd_s (worn_s L hm)]
      rfl
  · rw [if_neg h1, if_neg h1, if_pos rfl]
/-- what of the river tops need -/
def TPh (δ : St) (n : Nat) : Prop := VT δ ∧ n ≤ 6 ∧ (∀ o, o < n → 0 ≤ (whF δ o).toInt ∧ (whF δ o).toInt ≤ 90) ∧ ∀ m, m < n → 0 ≤ (sI δ (29 + m) 3).toInt
def Lf (n : Nat) (f : Nat → Int32) : Prop := ∀ m, m < n → f m = -2 ∨ f m = -1 ∨ ∃ u, u < 72 ∧ f m = nI u
theorem Lf_at {n m : Nat} {f : Nat → Int32} (l : Lf n f) (hm : m < n) (h : 0 ≤ f m) : ∃ b, b < 72 ∧ f m = nI b := by
  rcases l m hm with e | e | e
  · rw [e] at h; exact absurd h (by decide)
  · rw [e] at h; exact absurd h (by decide)
  · exact e
theorem tp_no {δ : St} {n m : Nat} {f : Nat → Int32} {h : Int32} (q : ¬ 0 ≤ f m) : tqF δ n f m h = 0 := by
  unfold tqF
  rw [if_neg (fun w => q w.1)]
theorem pw_no {δ : St} {n m : Nat} {f : Nat → Int32} {h : Int32} (q : ¬ 0 ≤ f m) : pwP δ n f m h = 0 := by
  unfold pwP
  rw [if_neg (fun w => q w.1)]
/-- mills more ahead: no more power -/
theorem tp_mo {δ : St} {n m : Nat} {f g : Nat → Int32} {h : Int32} (T : TPh δ n) (lf : Lf n f) (lg : Lf n g) (ms : MS n f g) (hm : m < n) (e : g m = f m) : 0 ≤ (tqF δ n g m h).toInt ∧ (tqF δ n g m h).toInt ≤ (tqF δ n f m h).toInt ∧ (tqF δ n f m h).toInt ≤ 400 := by
  have z : (0 : Int32).toInt = 0 := rfl
  unfold tqF
  rw [e]
  by_cases c1 : 0 ≤ f m ∧ f m < 72
  · obtain ⟨b, hb, hat⟩ := in72 c1
    rw [if_pos c1, if_pos c1, hat, ix_n (by omega)]
    by_cases c2 : dpF (sI δ 3 b) h < sI δ (29 + m) 0
    · rw [if_pos c2, if_pos c2, z]; omega
    · rw [if_neg c2, if_neg c2]
      have fl := fl_mo (b := b) (val := valT δ (b / 12) h) (wh := whF δ) (valT_n T.1 (by omega) h) T.2.2.1 T.2.1 hb lf lg ms
      have tk := (T.1 6 (by decide)).2
      exact sc_mo ⟨(tu_rg tk _).1, tu_mo tk fl.1 fl.2.1, (tu_rg tk _).2⟩ (wr_rg (T.2.2.2 m hm))
  · rw [if_neg c1, if_neg c1, z]; omega
theorem pw_tp {δ : St} {n m : Nat} {f : Nat → Int32} {h : Int32} (T : TPh δ n) (lf : Lf n f) (hm : m < n) : 0 ≤ (pwP δ n f m h).toInt ∧ (pwP δ n f m h).toInt ≤ (tqF δ n f m h).toInt := by
  have z : (0 : Int32).toInt = 0 := rfl
  unfold tqF pwP
  by_cases c1 : 0 ≤ f m ∧ f m < 72
  · obtain ⟨b, hb, hat⟩ := in72 c1
    rw [if_pos c1, if_pos c1, hat, ix_n (by omega)]
    by_cases c2 : dpF (sI δ 3 b) h < sI δ (29 + m) 0
    · rw [if_pos c2, if_pos c2, z]; omega
    · rw [if_neg c2, if_neg c2]
      have fl := fl_mo (b := b) (val := valT δ (b / 12) h) (wh := whF δ) (valT_n T.1 (by omega) h) T.2.2.1 T.2.1 hb lf lf (fun o _ _ => rfl)
      have tk := (T.1 6 (by decide)).2
      have := sc_mo (v := valT δ 6 (flP δ n f b h)) (v' := tuF (tn δ 6) (sI δ (9 + 3 * 6)) (sI δ (10 + 3 * 6)) (flP δ n f b h)) ⟨(valT_n T.1 (by decide) _).1, tu_up tk fl.1 (Int.le_refl _), (tu_rg tk _).2⟩ (wr_rg (T.2.2.2 m hm))
      exact ⟨this.1, this.2.1⟩
  · rw [if_neg c1, if_neg c1, z]; omega
