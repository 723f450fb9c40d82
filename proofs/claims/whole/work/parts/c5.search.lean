/-! THE SEARCH FOR A PLAN: what it is, and that the reference does it -/
def bitP (B : Int32) (m : Nat) : Bool := decide ((B >>> (nI m &&& 31)) &&& 1 = 1)
def allB (q : Nat → Bool) : Nat → Bool
  | 0 => true
  | k + 1 => allB q k && q k
theorem allB_t {q : Nat → Bool} : ∀ n, allB q n = true ↔ ∀ k, k < n → q k = true := by
  intro n
  induction n with
  | zero => exact ⟨fun _ k hk => absurd hk (by omega), fun _ => rfl⟩
  | succ n ih =>
    unfold allB
    rw [Bool.and_eq_true, ih]
    constructor
    · intro h k hk
      by_cases e : k = n
      · rw [e]; exact h.2
      · exact h.1 k (by omega)
    · intro h
      exact ⟨fun k hk => h k (by omega), h n (by omega)⟩
theorem allB_f {q : Nat → Bool} {n k : Nat} (hk : k < n) (h : ¬ q k = true) : ¬ allB q n = true := fun w => h ((allB_t n).mp w k hk)
/-- chains hold; ways are kept -/
def okP (δ : St) (n : Nat) (p : Nat → Bool) (h ice : Int32) (f : Nat → Int32) (m : Nat) : Bool := !(p m) || decide (plP δ n f m h ice ≤ sI δ (29 + m) 2)
def okW (δ : St) (n : Nat) (h : Int32) (fr to : Nat) (wy : Nat → Nat) (f : Nat → Int32) (s : Nat) : Bool := !(decide (fr ≤ s ∧ s ≤ to)) || decide (wy s ≤ mostF (opF δ n f s h) 6)
def wgF (δ : St) (n : Nat) (p : Nat → Bool) (h ice : Int32) (fr to : Nat) (wy : Nat → Nat) (f : Nat → Int32) : Int32 :=
  if allB (okP δ n p h ice f) n = true ∧ allB (okW δ n h fr to wy f) 12 = true then smF (fun m => pwP δ n f m h) n else -1
def fbF {S : Type} (g : Nat → S → S) : Nat → Nat → S → S
  | 0, _, s => s
  | j + 1, b, s => fbF g j (b + 1) (g b s)
def caF (n fr to : Nat) (my : Nat → Nat → Bool) (m b : Nat) (f : Nat → Int32) : Bool := decide (fr ≤ b % 12 ∧ b % 12 ≤ to) && (my m b && decide (lyF f (nI b) n 0 = -1))
/-- all trials from mill m on: d mills are left -/
def RM (wg : (Nat → Int32) → Int32) (p : Nat → Bool) (cd : Nat → Nat → (Nat → Int32) → Bool) : Nat → Nat → (Nat → Int32) → Int32 × (Nat → Int32) → Int32 × (Nat → Int32)
  | 0, _, f, s => if wg f ≤ s.1 then s else (wg f, f)
  | d + 1, m, f, s => if p m = true then RM wg p cd d (m + 1) f (fbF (fun b s => if cd m b f = true then RM wg p cd d (m + 1) (ud f m (nI b)) s else s) 72 0 s) else RM wg p cd d (m + 1) f s
theorem isIn_s {ρ : St} (M : Lay ρ) {B : Int32} (hB : sI ρ 101 62 = B) (m : Nat) : f12_isIn ρ 101 (nI m) = some (if bitP B m = true then 1 else 0, ρ) := by
  unfold f12_isIn bitP
  rw [gd_t (oL101 M), hB]
  by_cases h : (B >>> (nI m &&& 31)) &&& 1 = 1
  · rw [if_pos h, if_pos (decide_eq_true h)]
  · rw [if_neg h, if_neg (fun w => h (of_decide_eq_true w))]
theorem nI_gt {a b : Nat} (h : b < a) (ha : a < 2147483648) : ¬ nI a ≤ nI b := fun w => by have := (nI_leI (by omega) (by omega)).mp w; omega
theorem weighs_w {δ ρ : St} {n fr to : Nat} {h : Int32} {wy : Nat → Nat} (R : RiV δ ρ n) (hh : Hh h) (t11 : to ≤ 11) (h69 : sI ρ 101 69 = h) (h72 : sI ρ 101 72 = nI to) (hw : ∀ s, fr ≤ s → s ≤ to → sI ρ 148 s = nI (wy s) ∧ wy s < 100) (v : Int32) :
    ∀ (j s fuel : Nat), s + j = to + 1 → j < fuel → fr ≤ s → ∃ r, f12_weighs_p79 fuel ρ 101 v (nI s) = some (r, ρ) ∧ ((∀ k, s ≤ k → k ≤ to → wy k ≤ mostF (opF δ n (sI ρ 109) k h) 6) → r = v) ∧ (¬ (∀ k, s ≤ k → k ≤ to → wy k ≤ mostF (opF δ n (sI ρ 109) k h) 6) → r = -1) := by
  have M := R.1
  intro j
  induction j with
  | zero =>
    intro s fuel hs hf _
    obtain ⟨f, rfl, -⟩ := suc_of hf
    refine ⟨v, ?_, fun _ => rfl, fun w => absurd (fun k h1 h2 => absurd h2 (by omega)) w⟩
    rw [f12_weighs_p79, gd_t (oL101 M), h72, if_neg (nI_gt (by omega) (by omega))]
  | succ j ih =>
    intro s fuel hs hf hfr
    obtain ⟨f, rfl, -⟩ := suc_of hf
    have mo : mostF (opF δ n (sI ρ 109) s h) 6 ≤ 6 := mostF_le 6
    obtain ⟨w1, w2⟩ := hw s hfr (by omega)
    have e : f12_weighs_p79 (f + 1) ρ 101 v (nI s) = if nI (mostF (opF δ n (sI ρ 109) s h) 6) < nI (wy s) then some (-1, ρ) else f12_weighs_p79 f ρ 101 v (nI (s + 1)) := by
      rw [f12_weighs_p79, gd_t (oL101 M), h72, if_pos (nI_le (by omega) (by omega)), h69, bd_s (freeLanes_s M R.2.2.2.1 R.2.2.2.2.1 R.2.2.2.2.2.1 R.2.2.2.2.2.2.1 (by omega) hh), lt_b, rL101_67 M, gd_t nz_s, gd_t (oL148 M), gd_t (inb_n (lL148 M) (by omega) (by decide)), ix_n (by omega), w1, lt_b, nI_1]
    by_cases c : wy s ≤ mostF (opF δ n (sI ρ 109) s h) 6
    · obtain ⟨r, a1, a2, a3⟩ := ih (s + 1) f (by omega) (by omega) (by omega)
      refine ⟨r, by rw [e, if_neg (nI_nlt c (by omega)), a1], fun w => a2 (fun k h1 h2 => w k (by omega) h2), fun w => a3 (fun w2 => w (fun k h1 h2 => ?_))⟩
      by_cases ek : k = s
      · rw [ek]; exact c
      · exact w2 k (by omega) h2
    · exact ⟨-1, by rw [e, if_pos (nI_lt (by omega) (by omega))], fun w => absurd (w s (Nat.le_refl _) (by omega)) c, fun _ => rfl⟩
theorem okW_t {δ : St} {n fr to : Nat} {h : Int32} {wy : Nat → Nat} {f : Nat → Int32} (t11 : to ≤ 11) : allB (okW δ n h fr to wy f) 12 = true ↔ ∀ k, fr ≤ k → k ≤ to → wy k ≤ mostF (opF δ n f k h) 6 := by
  rw [allB_t]
  unfold okW
  constructor
  · intro w k h1 h2
    have := w k (by omega)
    rw [decide_eq_true (And.intro h1 h2)] at this
    simpa using this
  · intro w k hk
    by_cases c : fr ≤ k ∧ k ≤ to
    · rw [decide_eq_true c, decide_eq_true (w k c.1 c.2)]; rfl
    · rw [decide_eq_false c]; rfl
theorem weighs_l {δ ρ : St} {n fr to : Nat} {h ice B : Int32} {wy : Nat → Nat} (R : RiV δ ρ n) (O : LO n (sI ρ 109)) (hh : Hh h) (t11 : to ≤ 11) (hft : fr ≤ to) (h62 : sI ρ 101 62 = B) (h69 : sI ρ 101 69 = h) (h70 : sI ρ 101 70 = ice) (h71 : sI ρ 101 71 = nI fr) (h72 : sI ρ 101 72 = nI to) (hw : ∀ s, fr ≤ s → s ≤ to → sI ρ 148 s = nI (wy s) ∧ wy s < 100) (ch : ∀ m, m < n → 0 ≤ (sI δ (29 + m) 2).toInt) :
    ∀ (j m fuel : Nat), m + j = n → j < fuel → allB (okP δ n (bitP B) h ice (sI ρ 109)) m = true → f12_weighs_p4 fuel ρ 101 (smF (fun m => pwP δ n (sI ρ 109) m h) m) (nI m) = some (wgF δ n (bitP B) h ice fr to wy (sI ρ 109), ρ) := by
  have M := R.1
  have n6 := R.2.2.2.2.2.2.1
  have h5 := R.2.2.2.2.2.1
  intro j
  induction j with
  | zero =>
    intro m fuel hm hf al
    obtain ⟨f, rfl, -⟩ := suc_of hf
    have e : m = n := by omega
    subst e
    obtain ⟨r, a1, a2, a3⟩ := weighs_w R hh t11 h69 h72 hw (smF (fun q => pwP δ m (sI ρ 109) q h) m) (to + 1 - fr) fr FU (by omega) (by unfold FU; omega) (Nat.le_refl _)
    rw [f12_weighs_p4, gd_t (oL101 M), h5, if_neg (nI_nlt (by omega) (by omega)), lt_b, h71, a1]
    unfold wgF
    by_cases c : allB (okW δ m h fr to wy (sI ρ 109)) 12 = true
    · rw [if_pos ⟨al, c⟩, a2 ((okW_t t11).mp c)]
    · rw [if_neg (fun w => c w.2), a3 (fun w => c ((okW_t t11).mpr w))]
  | succ j ih =>
    intro m fuel hm hf al
    obtain ⟨f, rfl, -⟩ := suc_of hf
    have step : ∀ v, okP δ n (bitP B) h ice (sI ρ 109) m = true → v = smF (fun q => pwP δ n (sI ρ 109) q h) (m + 1) → f12_weighs_p68 (f12_weighs_p4 f) ρ 101 v (nI m) = some (wgF δ n (bitP B) h ice fr to wy (sI ρ 109), ρ) := fun v hk hv => by
      unfold f12_weighs_p68
      rw [lt_b, nI_1, hv]
      exact ih (m + 1) f (by omega) (by omega) (by unfold allB; rw [al, hk]; rfl)
    rw [f12_weighs_p4, gd_t (oL101 M), h5, if_pos (nI_lt (by omega) (by omega)), lt_b, rL101_9 M, gd_t nz_s, gd_t (oL109 M), gd_t (inb_n (lL109 M) (by omega) (by decide)), ix_n (by omega)]
    by_cases c1 : sI ρ 109 m < 0
    · rw [if_pos c1]
      have no : ¬ 0 ≤ sI ρ 109 m := Int32.not_le.mpr c1
      refine step _ ?_ ?_
      · unfold okP
        have : plP δ n (sI ρ 109) m h ice = 0 := by unfold plP; rw [if_neg (fun w => no w.1)]
        rw [this, decide_eq_true (show (0 : Int32) ≤ sI δ (29 + m) 2 by rw [t_le]; exact ch m (by omega)), Bool.or_true]
      · show _ = smF _ m + pwP δ n (sI ρ 109) m h
        rw [pw_no no, Int32.add_zero]
    · have at0 : 0 ≤ sI ρ 109 m := Int32.not_lt.mp c1
      have add : ∀ (hk : okP δ n (bitP B) h ice (sI ρ 109) m = true), f12_weighs_p56 (f12_weighs_p4 f) ρ 101 (smF (fun q => pwP δ n (sI ρ 109) q h) m) (nI m) = some (wgF δ n (bitP B) h ice fr to wy (sI ρ 109), ρ) := fun hk => by
        unfold f12_weighs_p56
        rw [gd_t (oL101 M), h69, bd_s (powM_d R (by omega) at0 O hh), lt_b]
        exact step _ hk rfl
      rw [if_neg c1, bd_s (isIn_s M h62 m)]
      by_cases c2 : bitP B m = true
      · rw [if_pos c2, if_neg (by decide), h69, h70, bd_s (pulM_d R (by omega) at0 O hh), lt_b, rL101_8 M, gd_t nz_s, gd_t (oL108 M), gd_t (inb_n (lL108 M) (by omega) (by decide)), (R.2.2.2.2.2.2.2 m (by omega)).2.2.1]
        by_cases c3 : plP δ n (sI ρ 109) m h ice ≤ sI δ (29 + m) 2
        · rw [if_pos c3]
          exact add (by unfold okP; rw [decide_eq_true c3, Bool.or_true])
        · rw [if_neg c3]
          unfold wgF
          rw [if_neg (fun w => allB_f (k := m) (by omega) (by unfold okP; rw [c2, decide_eq_false c3]; decide) w.1)]
      · rw [if_neg c2, if_pos rfl]
        exact add (by unfold okP; rw [Bool.eq_false_iff.mpr c2]; rfl)
theorem weighs_s {δ ρ : St} {n fr to : Nat} {h ice B : Int32} {wy : Nat → Nat} (R : RiV δ ρ n) (O : LO n (sI ρ 109)) (hh : Hh h) (t11 : to ≤ 11) (hft : fr ≤ to) (h62 : sI ρ 101 62 = B) (h69 : sI ρ 101 69 = h) (h70 : sI ρ 101 70 = ice) (h71 : sI ρ 101 71 = nI fr) (h72 : sI ρ 101 72 = nI to) (hw : ∀ s, fr ≤ s → s ≤ to → sI ρ 148 s = nI (wy s) ∧ wy s < 100) (ch : ∀ m, m < n → 0 ≤ (sI δ (29 + m) 2).toInt) : f12_weighs ρ 101 = some (wgF δ n (bitP B) h ice fr to wy (sI ρ 109), ρ) := by
  unfold f12_weighs
  exact weighs_l R O hh t11 hft h62 h69 h70 h71 h72 hw ch n 0 FU (by omega) (by have := R.2.2.2.2.2.2.1; unfold FU; omega) rfl
