/-! THE CLASS'S TRIALS: what the rows are, weighing -/
theorem rv_val {δ σ : St} (e : ∀ x, x ≤ 34 → sI σ x = sI δ x) {t : Nat} (ht : t < 7) : tn σ t = tn δ t ∧ valT σ t = valT δ t := by
  have a : tn σ t = tn δ t := by unfold tn; rw [e (8 + 3 * t) (by omega)]
  exact ⟨a, funext fun x => by unfold valT; rw [a, e (9 + 3 * t) (by omega), e (10 + 3 * t) (by omega)]⟩
theorem rv_VT {δ σ : St} (e : ∀ x, x ≤ 34 → sI σ x = sI δ x) (V : VT δ) : VT σ := fun t ht => by
  rw [(rv_val e ht).1, e (8 + 3 * t) (by omega), e (9 + 3 * t) (by omega), e (10 + 3 * t) (by omega)]
  exact V t ht
theorem rv_fl {δ σ : St} (e : ∀ x, x ≤ 34 → sI σ x = sI δ x) {n b : Nat} {f g : Nat → Int32} {h : Int32} (n6 : n ≤ 6) (hb : b < 72) (ef : ∀ k, k < n → g k = f k) : flP σ n g b h = flP δ n f b h := by
  unfold flP
  rw [(rv_val e (t := b / 12) (by omega)).2, flF_wh (wg := whF δ) (fun o ho => by unfold whF; rw [e (29 + o) (by omega)])]
  exact smF_cg ef
theorem rv_tq {δ σ : St} (e : ∀ x, x ≤ 34 → sI σ x = sI δ x) {n m : Nat} {f g : Nat → Int32} {h : Int32} (n6 : n ≤ 6) (hm : m < n) (ef : ∀ k, k < n → g k = f k) : tqF σ n g m h = tqF δ n f m h := by
  unfold tqF
  rw [ef m hm]
  by_cases c : 0 ≤ f m ∧ f m < 72
  · obtain ⟨b, hb, hat⟩ := in72 c
    rw [if_pos c, if_pos c, hat, ix_n (by omega), rv_fl e n6 hb ef, (rv_val e (t := 6) (by decide)).1, e 3 (by decide), e (29 + m) (by omega), e (9 + 3 * 6) (by decide), e (10 + 3 * 6) (by decide)]
  · rw [if_neg c, if_neg c]
theorem rv_pw {δ σ : St} (e : ∀ x, x ≤ 34 → sI σ x = sI δ x) {n m : Nat} {f g : Nat → Int32} {h : Int32} (n6 : n ≤ 6) (hm : m < n) (ef : ∀ k, k < n → g k = f k) : pwP σ n g m h = pwP δ n f m h := by
  unfold pwP
  rw [ef m hm]
  by_cases c : 0 ≤ f m ∧ f m < 72
  · obtain ⟨b, hb, hat⟩ := in72 c
    rw [if_pos c, if_pos c, hat, ix_n (by omega), rv_fl e n6 hb ef, (rv_val e (t := 6) (by decide)).2, e 3 (by decide), e (29 + m) (by omega)]
  · rw [if_neg c, if_neg c]
theorem rv_pl {δ σ : St} (e : ∀ x, x ≤ 34 → sI σ x = sI δ x) {n m : Nat} {f g : Nat → Int32} {h ice : Int32} (n6 : n ≤ 6) (hm : m < n) (ef : ∀ k, k < n → g k = f k) : plP σ n g m h ice = plP δ n f m h ice := by
  unfold plP
  rw [ef m hm]
  by_cases c : 0 ≤ f m ∧ f m < 72
  · obtain ⟨b, hb, hat⟩ := in72 c
    rw [if_pos c, if_pos c, hat, ix_n (by omega), rv_fl e n6 hb ef, e 3 (by decide), e (29 + m) (by omega)]
    unfold whF
    rw [e (29 + m) (by omega)]
  · rw [if_neg c, if_neg c]
theorem rv_op {δ σ : St} (e : ∀ x, x ≤ 34 → sI σ x = sI δ x) {n s : Nat} {f g : Nat → Int32} {h : Int32} (ef : ∀ k, k < n → g k = f k) : opF σ n g s h = opF δ n f s h := funext fun i => by
  unfold opF
  rw [e 3 (by decide), lyF_eq ef]
/-- how many before m -/
def ctP (q : Nat → Bool) : Nat → Nat
  | 0 => 0
  | k + 1 => if q k = true then ctP q k + 1 else ctP q k
theorem ctP_t {q : Nat → Bool} {k : Nat} (h : q k = true) : ctP q (k + 1) = ctP q k + 1 := if_pos h
theorem ctP_n {q : Nat → Bool} {k : Nat} (h : ¬ q k = true) : ctP q (k + 1) = ctP q k := if_neg h
theorem ctP_mo {q : Nat → Bool} {a b : Nat} (h : a ≤ b) : ctP q a ≤ ctP q b := by
  induction b with
  | zero => have : a = 0 := by omega
            subst this; exact Nat.le_refl _
  | succ b ih =>
    by_cases e : a = b + 1
    · rw [e]; exact Nat.le_refl _
    · have := ih (by omega)
      by_cases c : q b = true
      · rw [ctP_t c]; omega
      · rw [ctP_n c]; exact this
theorem ctP_lt {q : Nat → Bool} {a b : Nat} (h : a < b) (c : q a = true) : ctP q a < ctP q b := by
  have := ctP_mo (q := q) (show a + 1 ≤ b from h)
  rw [ctP_t c] at this
  omega
theorem ctP_le {q r : Nat → Bool} (h : ∀ k, q k = true → r k = true) : ∀ n, ctP q n ≤ ctP r n := by
  intro n
  induction n with
  | zero => exact Nat.le_refl _
  | succ n ih =>
    by_cases c : q n = true
    · rw [ctP_t c, ctP_t (h n c)]; omega
    · rw [ctP_n c]
      exact Nat.le_trans ih (ctP_mo (Nat.le_succ n))
theorem ctP_24 : ∀ fr, fr < 12 → ∀ to, to < 12 → to ≤ fr + 3 → ctP (fun b => decide (fr ≤ b % 12 ∧ b % 12 ≤ to)) 72 ≤ 24 := by decide +kernel
/-- the planner's rows -/
def CM (δ : St) (n : Nat) (p : Nat → Bool) (h ice : Int32) (fr to : Nat) (wy : Nat → Nat) (my : Nat → Nat → Bool) (f0 f : Nat → Int32) (s : Int32 × (Nat → Int32)) (σ : St) : Prop :=
  (Lay σ ∧ (∀ x, x ≤ 34 → sI σ x = sI δ x) ∧ sI δ 2 5 = nI n) ∧ (sI σ 78 12 = nI (ctP p n) ∧ sI σ 78 14 = h ∧ sI σ 78 15 = ice) ∧
  (∀ m, m < n → p m = true → sI σ 80 (ctP p m) = nI m ∧ sI σ 85 (ctP p m) = nI (ctP (fun b => caF n fr to my m b f0) 72 + 1) ∧
    (∀ b, b < 72 → caF n fr to my m b f0 = true → sI σ (82 + ctP p m) (ctP (fun b => caF n fr to my m b f0) b) = nI b ∧ sI σ (87 + ctP p m) (ctP (fun b => caF n fr to my m b f0) b) = ctF δ n h f0 m b) ∧
    sI σ (82 + ctP p m) (ctP (fun b => caF n fr to my m b f0) 72) = -1 ∧ sI σ (87 + ctP p m) (ctP (fun b => caF n fr to my m b f0) 72) = 0) ∧
  (∀ m, m ≤ n → sI σ 90 (ctP p m) = ltD (tmF δ n h f0 (fun m b => caF n fr to my m b f0)) p (n - m) m) ∧
  (∀ q, fr ≤ q → q ≤ to → sI σ 91 q = nI (wy q)) ∧ sI σ 78 13 = s.1 ∧ (∀ k, k < n → sI σ 92 k = f k) ∧ ∀ k, k < n → sI σ 93 k = s.2 k
def Wcm (x k : Nat) : Prop := x = 92 ∨ x = 93 ∨ x = 78 ∧ k = 13
theorem CM_Fr {δ : St} {n : Nat} {p : Nat → Bool} {h ice : Int32} {fr to : Nat} {wy : Nat → Nat} {my : Nat → Nat → Bool} {f0 f g : Nat → Int32} {s t : Int32 × (Nat → Int32)} {σ σ' : St} (w3 : ctP p n ≤ 3) (S : CM δ n p h ice fr to wy my f0 f s σ) (F : Fr Wcm σ σ') (e1 : ∀ k, k < n → sI σ' 92 k = g k) (e2 : sI σ' 78 13 = t.1) (e3 : ∀ k, k < n → sI σ' 93 k = t.2 k) : CM δ n p h ice fr to wy my f0 g t σ' := by
  obtain ⟨⟨L, e34, h5⟩, ⟨s1, s2, s3⟩, c, l, w, -⟩ := S
  have hN := L.2.2
  have k : ∀ x j, x ≤ 153 → ¬ Wcm x j → sI σ' x j = sI σ x j := fun x j h1 h2 => Fr_i F (by omega) h2
  refine ⟨⟨Lay_Fr F L, fun x hx => funext fun j => ?_, h5⟩, ⟨?_, ?_, ?_⟩, fun m hm pm => ?_, fun m hm => ?_, fun q h1 h2 => ?_, e2, e1, e3⟩
  · rw [k _ _ (by omega) (by unfold Wcm; omega), e34 x hx]
  · rw [k _ _ (by omega) (by unfold Wcm; omega)]; exact s1
  · rw [k _ _ (by omega) (by unfold Wcm; omega)]; exact s2
  · rw [k _ _ (by omega) (by unfold Wcm; omega)]; exact s3
  · have lt := ctP_lt (q := p) hm pm
    obtain ⟨c1, c2, c3, c4, c5⟩ := c m hm pm
    refine ⟨?_, ?_, fun b hb cb => ⟨?_, ?_⟩, ?_, ?_⟩
    · rw [k _ _ (by omega) (by unfold Wcm; omega)]; exact c1
    · rw [k _ _ (by omega) (by unfold Wcm; omega)]; exact c2
    · rw [k _ _ (by omega) (by unfold Wcm; omega)]; exact (c3 b hb cb).1
    · rw [k _ _ (by omega) (by unfold Wcm; omega)]; exact (c3 b hb cb).2
    · rw [k _ _ (by omega) (by unfold Wcm; omega)]; exact c4
    · rw [k _ _ (by omega) (by unfold Wcm; omega)]; exact c5
  · rw [k _ _ (by omega) (by unfold Wcm; omega)]; exact l m hm
  · rw [k _ _ (by omega) (by unfold Wcm; omega)]; exact w q h1 h2
theorem weighC_w {δ : St} {n : Nat} {p : Nat → Bool} {h ice : Int32} {fr to : Nat} {wy : Nat → Nat} {my : Nat → Nat → Bool} {f0 f : Nat → Int32} {s : Int32 × (Nat → Int32)} {σ : St} (V : VT δ) (n6 : n ≤ 6) (w3 : ctP p n ≤ 3) (S : CM δ n p h ice fr to wy my f0 f s σ) :
    ∀ (j m fuel : Nat), m + j = n → j < fuel → ∃ σ', f6_weigh_p63 fuel σ 78 (smF (fun o => pwP δ n f o h) m) (nI m) = some ((), σ') ∧ Fr Wcm σ σ' ∧ CM δ n p h ice fr to wy my f0 f (if smF (fun o => pwP δ n f o h) n ≤ s.1 then s else (smF (fun o => pwP δ n f o h) n, f)) σ' := by
  obtain ⟨⟨L, e34, h5⟩, ⟨s1, s2, s3⟩, c, l, w, b13, b92, b93⟩ := id S
  have sz : sI σ 2 5 = nI n := by rw [e34 2 (by decide)]; exact h5
  have Vσ := rv_VT e34 V
  intro j
  induction j with
  | zero =>
    intro m fuel hm hf
    obtain ⟨g, rfl, -⟩ := suc_of hf
    have e : m = n := by omega
    subst e
    rw [f6_weigh_p63, gd_t (oL78 L), lt_b, rL78_0 L, gd_t nz_s, gd_t (oL2 L), sz, if_neg (nI_nlt (by omega) (by omega)), b13]
    by_cases c1 : smF (fun o => pwP δ m f o h) m ≤ s.1
    · rw [if_pos c1, if_pos c1]
      exact ⟨σ, rfl, Fr_rf, S⟩
    · rw [if_neg c1, if_neg c1]
      have L1 : Lay (wI σ 78 13 (smF (fun o => pwP δ m f o h) m)) := Lay_wI L
      obtain ⟨q1, q2, q3⟩ := copy6 (σ := wI σ 78 13 (smF (fun o => pwP δ m f o h) m)) (a := 92) (b := 93) (lL92 L1) (lL93 L1)
      have F : Fr Wcm σ (wCp (wI σ 78 13 (smF (fun o => pwP δ m f o h) m)) 92 (ix 0) 93 (ix 0) (ix 6)) := Fr_cp (Fr_wI Fr_rf (Or.inl (by unfold Wcm; omega))) (Or.inl (fun k => by unfold Wcm; omega))
      refine ⟨_, ?_, F, CM_Fr w3 S F (fun k hk => ?_) ?_ (fun k hk => ?_)⟩
      · rw [lt_b, lt_b, rL78_10 L1, gd_t nz_s, lt_b, rL78_11 L1, gd_t nz_s, gd_t (oL92 L1), gd_t (oL93 L1), gd_t q1, lt_b]
      · rw [q3 92 (by decide), sI_wo (by decide)]; exact b92 k hk
      · rw [q3 78 (by decide), sI_w1]
      · rw [q2 k (by omega), sI_wo (by decide)]; exact b92 k hk
  | succ j ih =>
    intro m fuel hm hf
    obtain ⟨g, rfl, -⟩ := suc_of hf
    obtain ⟨σ', a1, a2, a3⟩ := ih (m + 1) g (by omega) (by omega)
    refine ⟨σ', ?_, a2, a3⟩
    rw [f6_weigh_p63, gd_t (oL78 L), lt_b, rL78_0 L, gd_t nz_s, gd_t (oL2 L), sz, if_pos (nI_lt (by omega) (by omega)), lt_b, rL78_10 L, gd_t nz_s, s2, bd_s (power_s L Vσ sz n6 (oL92 L) (lL92 L) (by omega)), rv_pw e34 n6 (by omega) b92, lt_b, lt_b, nI_1]
    exact a1
theorem weighC_l {δ : St} {n : Nat} {p : Nat → Bool} {h ice : Int32} {fr to : Nat} {wy : Nat → Nat} {my : Nat → Nat → Bool} {f0 f : Nat → Int32} {s : Int32 × (Nat → Int32)} {σ : St} (V : VT δ) (n6 : n ≤ 6) (w3 : ctP p n ≤ 3) (S : CM δ n p h ice fr to wy my f0 f s σ) (ow : allB (okW δ n h fr to wy f) 12 = true) (hv : -1 ≤ s.1.toInt) :
    ∀ (j m fuel : Nat), m + j = n → j < fuel → allB (okP δ n p h ice f) m = true → ∃ σ', f6_weigh_p2 fuel σ 78 (nI (ctP p m)) = some ((), σ') ∧ Fr Wcm σ σ' ∧ CM δ n p h ice fr to wy my f0 f (if wgF δ n p h ice fr to wy f ≤ s.1 then s else (wgF δ n p h ice fr to wy f, f)) σ' := by
  obtain ⟨⟨L, e34, h5⟩, ⟨s1, s2, s3⟩, c, l, w, b13, b92, b93⟩ := id S
  have sz : sI σ 2 5 = nI n := by rw [e34 2 (by decide)]; exact h5
  have Vσ := rv_VT e34 V
  intro j
  induction j with
  | zero =>
    intro m fuel hm hf al
    obtain ⟨g, rfl, -⟩ := suc_of hf
    have e : m = n := by omega
    subst e
    obtain ⟨σ', a1, a2, a3⟩ := weighC_w V n6 w3 S m 0 FU (by omega) (by unfold FU; omega)
    have ew : wgF δ m p h ice fr to wy f = smF (fun o => pwP δ m f o h) m := by
      unfold wgF
      rw [if_pos ⟨al, ow⟩]
    refine ⟨σ', ?_, a2, by rw [ew]; exact a3⟩
    rw [f6_weigh_p2, gd_t (oL78 L), s1, if_neg (nI_nlt (by omega) (by omega))]
    exact a1
  | succ j ih =>
    intro m fuel hm hf al
    by_cases pm : p m = true
    · obtain ⟨g, rfl, -⟩ := suc_of hf
      have lt := ctP_lt (q := p) (show m < n by omega) pm
      obtain ⟨c1, -⟩ := c m (by omega) pm
      rw [f6_weigh_p2, gd_t (oL78 L), s1, if_pos (nI_lt lt (by omega)), lt_b, rL78_4 L, gd_t nz_s, gd_t (oL80 L), gd_t (inb_n (lL80 L) (by omega) (by decide)), lt_b, ix_n (by omega), c1, lt_b, rL78_0 L, gd_t nz_s, lt_b, rL78_10 L, gd_t nz_s, gd_t (oL2 L), s2, s3, bd_s (pull_s L Vσ sz n6 (oL92 L) (lL92 L) (by omega)), rv_pl e34 n6 (by omega) b92, lt_b, rL78_0 L, gd_t nz_s, gd_t (oL2 L), lt_b, rL2_2 L, gd_t nz_s, gd_t (oL5 L), gd_t (inb_n (lL5 L) (by omega) (by decide)), lt_b, ix_n (by omega), (lay_boat L (by omega)).1, gd_t (nz_t (by omega)), gd_t (oboat L (by omega)), e34 (29 + m) (by omega)]
      by_cases q : plP δ n f m h ice ≤ sI δ (29 + m) 2
      · obtain ⟨σ', a1, a2, a3⟩ := ih (m + 1) g (by omega) (by omega) (by unfold allB; rw [al]; unfold okP; rw [decide_eq_true q, Bool.or_true]; rfl)
        refine ⟨σ', ?_, a2, a3⟩
        rw [if_pos q, lt_b, nI_1, ← ctP_t pm]
        exact a1
      · have ew : wgF δ n p h ice fr to wy f = -1 := by
          unfold wgF
          rw [if_neg (fun w => allB_f (k := m) (by omega) (by unfold okP; rw [pm, decide_eq_false q]; decide) w.1)]
        rw [if_neg q, ew, if_pos (by rw [t_le]; exact hv)]
        exact ⟨σ, rfl, Fr_rf, S⟩
    · obtain ⟨σ', a1, a2, a3⟩ := ih (m + 1) fuel (by omega) (by omega) (by unfold allB; rw [al]; unfold okP; rw [Bool.eq_false_iff.mpr pm]; rfl)
      refine ⟨σ', ?_, a2, a3⟩
      rw [ctP_n pm] at a1
      exact a1
