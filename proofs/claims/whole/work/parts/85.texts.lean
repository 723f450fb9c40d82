/-! TEXTS: the class's (cells a .. a+5) and the reference's (row T) -/
def enF (δ : St) (a r : Nat) : Nat := ix (sI δ (a + 3) r)
def stF (δ : St) (a : Nat) : Nat → Nat
  | 0 => 0
  | r + 1 => enF δ a r
def ltF (δ : St) (a : Nat) : Nat → Nat
  | 0 => 0
  | r + 1 => if sI δ (a + 2) r = 256 then ltF δ a r + 1 else ltF δ a r
def kmF (k : Int32) : Int32 := if k = 261 then 4 else k - 256
/-- the cells of a text of the class: C signs, R rules -/
def TxC (σ : St) (a C R : Nat) : Prop :=
  (ob σ a 10 = true ∧ 153 < a ∧ C ≤ 400 ∧ R ≤ 20 ∧ sI σ a 6 = nI R) ∧ (sR σ a 0 = a + 1 ∧ sR σ a 1 = a + 2 ∧ sR σ a 2 = a + 3 ∧ sR σ a 3 = a + 4 ∧ sR σ a 4 = a + 5) ∧ (∀ q, q < 5 → ob σ (a + 1 + q) 14 = true) ∧ (sK σ (a + 1)).2 = C ∧ ∀ q, q < 4 → (sK σ (a + 2 + q)).2 = R
/-- what its rules are -/
def TxOk (σ : St) (a C R : Nat) : Prop :=
  ltF σ a R ≤ 6 ∧ ∀ r, r < R → sI σ (a + 3) r = nI (enF σ a r) ∧ stF σ a r ≤ enF σ a r ∧ enF σ a r ≤ C ∧
    (sI σ (a + 2) r = 256 ∨ sI σ (a + 2) r = 257 ∨ sI σ (a + 2) r = 258 ∨ sI σ (a + 2) r = 259 ∨ sI σ (a + 2) r = 261) ∧
    Sg (sI σ (a + 1)) (ltF σ a r) (stF σ a r) (enF σ a r) 60 (decide (sI σ (a + 2) r ≠ 256)) ∧
    (sI σ (a + 2) r = 256 → sI σ (a + 4) r = nI (9 + ltF σ a r)) ∧ (sI σ (a + 2) r = 259 → 0 < (sI σ (a + 5) r).toInt) ∧ (sI σ (a + 2) r = 261 → 0 ≤ (sI σ (a + 4) r).toInt ∧ (sI σ (a + 4) r).toInt ≤ 6)
/-- the reference's row T is it -/
def TxM (δ σ : St) (a C R T : Nat) : Prop :=
  T < 25 ∧ sI σ 122 T = nI R ∧ (∀ k, k < C → sI σ 120 (420 * T + k) = mpF (sI δ (a + 1) k)) ∧
  ∀ r, r < R → sI σ 123 (20 * T + r) = kmF (sI δ (a + 2) r) ∧ sI σ 126 (20 * T + r) = nI (stF δ a r) ∧ sI σ 127 (20 * T + r) = nI (enF δ a r) ∧
    (sI δ (a + 2) r = 259 → sI σ 124 (20 * T + r) = sI δ (a + 4) r ∧ sI σ 125 (20 * T + r) = sI δ (a + 5) r) ∧ (sI δ (a + 2) r = 261 → sI σ 124 (20 * T + r) = sI δ (a + 4) r)
/-- what a rule's signs come to -/
def evF (c env : Nat → Int32) (i j : Nat) : Int32 := match rn c env (j - i) i [] with
  | some (v :: _) => v
  | _ => 0
def ud (e : Nat → Int32) (k : Nat) (v : Int32) (q : Nat) : Int32 := if q = k then v else e q
/-- names and last rule after r rules -/
def lhF (δ : St) (a : Nat) (one oth : Int32) (e0 : Nat → Int32) : Nat → (Nat → Int32) × Int32
  | 0 => (e0, -1)
  | r + 1 => if sI δ (a + 2) r = 256 then (ud (lhF δ a one oth e0 r).1 (9 + ltF δ a r) (evF (sI δ (a + 1)) (lhF δ a one oth e0 r).1 (stF δ a r) (enF δ a r)), (lhF δ a one oth e0 r).2)
    else if (sI δ (a + 2) r = one ∨ sI δ (a + 2) r = oth) ∧ evF (sI δ (a + 1)) (lhF δ a one oth e0 r).1 (stF δ a r) (enF δ a r) ≠ 0 then ((lhF δ a one oth e0 r).1, nI r) else lhF δ a one oth e0 r
theorem ltF_mo {δ : St} {a : Nat} : ∀ d r, ltF δ a r ≤ ltF δ a (r + d) := by
  intro d
  induction d with
  | zero => intro r; exact Nat.le_refl _
  | succ d ih =>
    intro r
    have : ltF δ a (r + d) ≤ ltF δ a (r + d + 1) := by
      show _ ≤ if sI δ (a + 2) (r + d) = 256 then ltF δ a (r + d) + 1 else ltF δ a (r + d)
      by_cases h : sI δ (a + 2) (r + d) = 256
      · rw [if_pos h]; omega
      · rw [if_neg h]; omega
    exact Nat.le_trans (ih r) this
theorem ltF_le {δ : St} {a r R : Nat} (h : r ≤ R) : ltF δ a r ≤ ltF δ a R := by
  have := ltF_mo (δ := δ) (a := a) (R - r) r
  rw [show r + (R - r) = R by omega] at this
  exact this
theorem Sg_ev {c : Nat → Int32} {l i j : Nat} {b : Bool} (x : Sg c l i j 60 b) (e : Nat → Int32) : rn c e (j - i) i [] = some [evF c e i j] ∧ (b = true → evF c e i j = 0 ∨ evF c e i j = 1) ∧ ∀ e', (∀ s, s < 9 + l → e s = e' s) → evF c e i j = evF c e' i j := by
  obtain ⟨-, v, v1, v2, v3⟩ := x
  have h : ∀ e, rn c e (j - i) i [] = some [v e] := fun e => v3 e [] (by show 0 + 60 ≤ 60; omega)
  have g : ∀ e, evF c e i j = v e := fun e => by unfold evF; rw [h e]
  exact ⟨by rw [h e, g e], fun q => by rw [g e]; exact v2 q e, fun e' q => by rw [g e, g e']; exact v1 e e' q⟩
theorem lhF_cg {σ : St} {a C R : Nat} (ok : TxOk σ a C R) (one oth : Int32) {e e' : Nat → Int32} (h : ∀ s, s < 9 → e s = e' s) : ∀ r, r ≤ R → (lhF σ a one oth e r).2 = (lhF σ a one oth e' r).2 ∧ ∀ s, s < 9 + ltF σ a r → (lhF σ a one oth e r).1 s = (lhF σ a one oth e' r).1 s := by
  intro r
  induction r with
  | zero => intro _; exact ⟨rfl, fun s hs => h s hs⟩
  | succ r ih =>
    intro hr
    obtain ⟨i1, i2⟩ := ih (by omega)
    have w := (ok.2 r (by omega)).2.2.2.2.1
    have ev := (Sg_ev w (lhF σ a one oth e r).1).2.2 (lhF σ a one oth e' r).1 i2
    unfold lhF
    rw [← ev]
    have el : ltF σ a (r + 1) = if sI σ (a + 2) r = 256 then ltF σ a r + 1 else ltF σ a r := rfl
    by_cases h1 : sI σ (a + 2) r = 256
    · rw [if_pos h1, if_pos h1]
      rw [if_pos h1] at el
      refine ⟨i1, fun s hs => ?_⟩
      show ud _ _ _ s = ud _ _ _ s
      unfold ud
      by_cases q : s = 9 + ltF σ a r
      · rw [if_pos q, if_pos q]
      · rw [if_neg q, if_neg q]; exact i2 s (by omega)
    · rw [if_neg h1, if_neg h1]
      rw [if_neg h1] at el
      rw [el]
      by_cases h2 : (sI σ (a + 2) r = one ∨ sI σ (a + 2) r = oth) ∧ evF (sI σ (a + 1)) (lhF σ a one oth e r).1 (stF σ a r) (enF σ a r) ≠ 0
      · rw [if_pos h2, if_pos h2]; exact ⟨rfl, i2⟩
      · rw [if_neg h2, if_neg h2]; exact ⟨i1, i2⟩
theorem lhF_or {σ : St} {a : Nat} (one oth : Int32) (e : Nat → Int32) : ∀ r, (lhF σ a one oth e r).2 = -1 ∨ ∃ k, k < r ∧ (lhF σ a one oth e r).2 = nI k ∧ (sI σ (a + 2) k = one ∨ sI σ (a + 2) k = oth) := by
  intro r
  induction r with
  | zero => exact Or.inl rfl
  | succ r ih =>
    unfold lhF
    have up : (lhF σ a one oth e r).2 = -1 ∨ ∃ k, k < r + 1 ∧ (lhF σ a one oth e r).2 = nI k ∧ (sI σ (a + 2) k = one ∨ sI σ (a + 2) k = oth) := by
      rcases ih with h | ⟨k, k1, k2⟩
      · exact Or.inl h
      · exact Or.inr ⟨k, by omega, k2⟩
    by_cases h1 : sI σ (a + 2) r = 256
    · rw [if_pos h1]; exact up
    · rw [if_neg h1]
      by_cases h2 : (sI σ (a + 2) r = one ∨ sI σ (a + 2) r = oth) ∧ evF (sI σ (a + 1)) (lhF σ a one oth e r).1 (stF σ a r) (enF σ a r) ≠ 0
      · rw [if_pos h2]; exact Or.inr ⟨r, by omega, rfl, h2.1⟩
      · rw [if_neg h2]; exact up
