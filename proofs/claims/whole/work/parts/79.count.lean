/-! COUNT -/
theorem sum_l {σ : St} {a n len : Nat} (o : ob σ a 14 = true) (hl : (sK σ a).2 = len) (hn : n ≤ len) (h2 : len < 2147483648) : ∀ (j i fuel : Nat), i + j = n → j < fuel → f12_sum__p5 fuel σ a (nI n) (smF (sI σ a) i) (nI i) = some (smF (sI σ a) n, σ) := by
  intro j
  induction j with
  | zero =>
    intro i fuel hi hf
    obtain ⟨f, rfl, -⟩ := suc_of hf
    have : i = n := by omega
    subst this
    rw [f12_sum__p5, if_neg (nI_nlt (by omega) (by omega))]
  | succ j ih =>
    intro i fuel hi hf
    obtain ⟨f, rfl, hf2⟩ := suc_of hf
    rw [f12_sum__p5, if_pos (nI_lt (by omega) (by omega)), gd_t o, gd_t (inb_n hl (by omega) h2), lt_b, ix_n (by omega), lt_b, nI_1]
    exact ih (i + 1) f (by omega) (by omega)
theorem sum_s {σ : St} {v a n len : Nat} (o : ob σ a 14 = true) (hl : (sK σ a).2 = len) (hn : n ≤ len) (h2 : len < 3000) : f12_sum_ σ v a (nI n) = some (smF (sI σ a) n, σ) :=
  sum_l o hl hn (by omega) n 0 FU (by omega) (by unfold FU; omega)
theorem count_q {σ : St} (L : Lay σ) {n d o v s : Nat} (g : gM σ n d) (hd : gD σ d) (go : gO σ o) (ge : gE σ v) (ga : gA σ s) (hx : sI σ 60 3 = sI σ 130 0 ∧ sI σ 64 3 = sI σ 130 1) (w : Int32) : ∃ r, f11_count σ 1 w = some (r, σ) ∧ f12_count σ 101 w = some (r, wI σ 101 0 0) := by
  have L0 : Lay (wI σ 101 0 0) := Lay_wI L
  have n6 := g.ri.2.1
  have o60 := go.1
  have e101 : ∀ j, j ≠ 0 → sI (wI σ 101 0 0) 101 j = sI σ 101 j := fun j hj => sI_wk hj
  have eo : ∀ a, a ≠ 101 → sI (wI σ 101 0 0) a = sI σ a := fun a ha => funext fun j => sI_wo ha j
  unfold f11_count f12_count
  rw [gd_t (oL101 L)]
  show ∃ r, _ ∧ (if w = 0 then _ else _) = _
  by_cases q0 : w = 0
  · rw [if_pos q0, if_pos q0]
    refine ⟨nI n, ?_, ?_⟩
    · rw [gd_t (oL1 L), lt_b, rL1_0 L, gd_t nz_s, gd_t (oL2 L), g.sz]
    · rw [e101 5 (by decide), g.ri.1]
  rw [if_neg q0, if_neg q0]
  by_cases q1 : w = 1
  · rw [if_pos q1, if_pos q1]
    refine ⟨nI o, ?_, ?_⟩
    · rw [gd_t (oL1 L), lt_b, rL1_3 L, gd_t nz_s, gd_t (oL70 L), go.2.1.1]
    · rw [e101 55 (by decide), go.2.1.2]
  rw [if_neg q1, if_neg q1]
  by_cases q2 : w = 2
  · rw [if_pos q2, if_pos q2]
    refine ⟨nI d, ?_, ?_⟩
    · rw [gd_t (oL1 L), hd.1]
    · rw [e101 14 (by decide), hd.2.1]
  rw [if_neg q2, if_neg q2]
  by_cases q3 : w = 3
  · rw [if_pos q3, if_pos q3]
    refine ⟨nI v, ?_, ?_⟩
    · rw [gd_t (oL1 L), lt_b, rL1_2 L, gd_t nz_s, gd_t (oL68 L), ge.2.1.1]
    · rw [e101 49 (by decide), ge.2.1.2]
  rw [if_neg q3, if_neg q3]
  by_cases q4 : w = 4
  · rw [if_pos q4, if_pos q4]
    refine ⟨nI s, ?_, ?_⟩
    · rw [gd_t (oL1 L), ga.2.1]
    · rw [e101 35 (by decide), ga.2.2.1]
  rw [if_neg q4, if_neg q4]
  by_cases q5 : w = 5
  · rw [if_pos q5, if_pos q5]
    refine ⟨sI σ 60 3, ?_, ?_⟩
    · unfold f4_textsOf
      rw [gd_t (oL1 L), lt_b, rL1_1 L, gd_t nz_s, gd_t (oL35 L), gd_t (oL35 L), lt_b, rL35_3 L, gd_t nz_s, gd_t (oL44 L), gd_t (inb_0 (lL44 L) (by decide) (by decide)), lt_b, show sR σ 44 (ix 0) = 60 from rL44_0 L, gd_t nz_s, gd_t (oL60 L), bd_1]
    · rw [lt_b, rL101_33 L0, gd_t nz_s, gd_t (oL130 L0), gd_t (inb_0 (lL130 L0) (by decide) (by decide)), eo 130 (by decide), hx.1]; rfl
  rw [if_neg q5, if_neg q5]
  by_cases q6 : w = 6
  · rw [if_pos q6, if_pos q6]
    refine ⟨sI σ 64 3, ?_, ?_⟩
    · unfold f4_textsOf
      rw [gd_t (oL1 L), lt_b, rL1_1 L, gd_t nz_s, gd_t (oL35 L), gd_t (oL35 L), lt_b, rL35_3 L, gd_t nz_s, gd_t (oL44 L), gd_t (show inb σ 44 1 = true from inb_n (k := 1) (lL44 L) (by decide) (by decide)), lt_b, show sR σ 44 (ix 1) = 64 from rL44_1 L, gd_t nz_s, gd_t (oL64 L), bd_1]
    · rw [lt_b, rL101_33 L0, gd_t nz_s, gd_t (oL130 L0), gd_t (show inb (wI σ 101 0 0) 130 1 = true from inb_n (k := 1) (lL130 L0) (by decide) (by decide)), eo 130 (by decide), hx.2]; rfl
  rw [if_neg q6, if_neg q6]
  by_cases q7 : w = 7
  · rw [if_pos q7, if_pos q7]
    refine ⟨smF (sI σ 75) o, ?_, ?_⟩
    · have e := left_l L go.2.1.1 o60 o 0 FU (by omega) (by unfold FU; omega)
      unfold f3_sacksLeft
      rw [gd_t (oL1 L), lt_b, rL1_3 L, gd_t nz_s, gd_t (oL70 L)]
      exact (congrArg (fun x => bd x _) e).trans bd_1
    · rw [lt_b, rL101_58 L0, gd_t nz_s, e101 55 (by decide), go.2.1.2, sum_s (oL141 L0) (lL141 L0) (by omega) (by decide), bd_1, eo 141 (by decide), smF_congr o (fun i hi => (go.2.2.1 i hi).1.2.2.1)]
  rw [if_neg q7, if_neg q7]
  by_cases q8 : w = 8
  · rw [if_pos q8, if_pos q8]
    refine ⟨smF (fun m => sI σ (29 + m) 4) n, ?_, ?_⟩
    · have e := ground_l L g.sz n6 n 0 FU (by omega) (by unfold FU; omega)
      unfold f8_sacksGround
      rw [gd_t (oL1 L), lt_b, rL1_0 L, gd_t nz_s, gd_t (oL2 L)]
      exact (congrArg (fun x => bd x _) e).trans bd_1
    · rw [lt_b, rL101_11 L0, gd_t nz_s, e101 5 (by decide), g.ri.1, sum_s (oL111 L0) (lL111 L0) (by omega) (by decide), bd_1, eo 111 (by decide), smF_congr n (fun i hi => (g.ri.2.2 i hi).2.2.2.2.1)]
  rw [if_neg q8, if_neg q8]
  by_cases q9 : w = 9
  · rw [if_pos q9, if_pos q9]
    refine ⟨smF (fun m => sI σ (29 + m) 5) n, ?_, ?_⟩
    · have e := tolls_l L g.sz n6 n 0 FU (by omega) (by unfold FU; omega)
      unfold f8_tollsTaken
      rw [gd_t (oL1 L), lt_b, rL1_0 L, gd_t nz_s, gd_t (oL2 L)]
      exact (congrArg (fun x => bd x _) e).trans bd_1
    · rw [lt_b, rL101_12 L0, gd_t nz_s, e101 5 (by decide), g.ri.1, sum_s (oL112 L0) (lL112 L0) (by omega) (by decide), bd_1, eo 112 (by decide), smF_congr n (fun i hi => (g.ri.2.2 i hi).2.2.2.2.2.1)]
  rw [if_neg q9, if_neg q9]
  have hn0 : sI (wI σ 101 0 0) 101 5 = nI n := by rw [e101 5 (by decide), g.ri.1]
  by_cases q10 : w = 10
  · rw [if_pos q10, if_pos q10]
    refine ⟨cnF (fun m => decide (0 ≤ sI σ 6 m)) n, ?_, ?_⟩
    · have e := lying_l L g.sz n6 n 0 FU (by omega) (by unfold FU; omega)
      unfold f8_lyingAtBerths
      rw [gd_t (oL1 L), lt_b, rL1_0 L, gd_t nz_s, gd_t (oL2 L)]
      exact (congrArg (fun x => bd x _) e).trans bd_1
    · have e := many_l L0 hn0 n6 0 (fun m => decide (0 ≤ sI σ 6 m)) (fun m hm => by rw [if_pos rfl, eo 109 (by decide), g.li m hm, decide_eq_true_eq]) n 0 FU (by omega) (by unfold FU; omega)
      unfold f12_many
      exact (congrArg (fun x => bd x _) e).trans bd_1
  rw [if_neg q10, if_neg q10]
  by_cases q11 : w = 11
  · rw [if_pos q11, if_pos q11]
    refine ⟨cnF (fun m => decide (sI σ 6 m = -2)) n, ?_, ?_⟩
    · have e := gone_l L g.sz n6 n 0 FU (by omega) (by unfold FU; omega)
      unfold f8_goneBoats
      rw [gd_t (oL1 L), lt_b, rL1_0 L, gd_t nz_s, gd_t (oL2 L)]
      exact (congrArg (fun x => bd x _) e).trans bd_1
    · have e := many_l L0 hn0 n6 1 (fun m => decide (sI σ 6 m = -2)) (fun m hm => by rw [if_neg (by decide), eo 109 (by decide), g.li m hm, decide_eq_true_eq]) n 0 FU (by omega) (by unfold FU; omega)
      unfold f12_many
      exact (congrArg (fun x => bd x _) e).trans bd_1
  rw [if_neg q11, if_neg q11]
  exact ⟨-1, rfl, rfl⟩
