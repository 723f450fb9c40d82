/-! CODE of rules, purely: what a run of signs leaves on the stack (top first) -/
def isBt (x : Int32) : Prop := x = 0 ∨ x = 1
theorem isBt_if {p : Prop} [Decidable p] : isBt (if p then 1 else 0) := by
  by_cases h : p
  · rw [if_pos h]; exact Or.inr rfl
  · rw [if_neg h]; exact Or.inl rfl
def bdF (v : Int64) : Int32 := if (lg_cmp v (1000000000 : Int64)) ≤ (0 : Int32) then (if (lg_cmp v (-1000000000 : Int64)) < (0 : Int32) then -1000000000 else v.toInt32) else 1000000000
def jnF (op a b : Int32) : Int32 :=
  if op = -8 then a &&& b else if op = -7 then a ||| b else if op = -6 then (if a = b then 1 else 0) else if op = -5 then (if a ≤ b then 0 else 1) else if op = -4 then (if a < b then 1 else 0)
  else if op = -3 then bdF (a.toInt64 * b.toInt64) else if op = -2 then bdF (a.toInt64 - b.toInt64) else if op = -1 then bdF (a.toInt64 + b.toInt64) else a ||| b
theorem joinC {σ : St} {op a b : Int32} : f4_joined σ op a b = some (jnF op a b, σ) := by
  have e : ∀ v : Int64, f4_joined_p116 σ v = some (bdF v, σ) := fun v => by
    unfold f4_joined_p116 bdF
    by_cases h1 : (lg_cmp v (1000000000 : Int64)) ≤ (0 : Int32)
    · rw [if_pos h1, if_pos h1]
      by_cases h2 : (lg_cmp v (-1000000000 : Int64)) < (0 : Int32)
      · rw [if_pos h2, if_pos h2]
      · rw [if_neg h2, if_neg h2]
    · rw [if_neg h1, if_neg h1]
  unfold f4_joined jnF
  simp only [e, lt_b, some_if]
/-- a sign of the class as the reference writes it -/
def mpF (op : Int32) : Int32 := if op = -7 then -9 else if op = -8 then -7 else if op = -9 then -8 else op
/-- one sign over a stack; none where the two would not do alike, or it would grow too high -/
def stp (env : Nat → Int32) (op : Int32) (st : List Int32) : Option (List Int32) :=
  if op < 0 then
    (if op = -7 then (match st with | x :: s => some ((1 - x) :: s) | _ => none)
    else if op < -9 then none
    else match st with
      | b :: a :: s => if (op = -8 ∨ op = -9) ∧ ¬ ((a = 0 ∨ a = 1) ∧ (b = 0 ∨ b = 1)) then none else some (jnF op a b :: s)
      | _ => none)
  else if 60 ≤ st.length then none
  else if op < 10000 then some (op :: st)
  else if op < 10015 then some (env (ix (op - 10000)) :: st) else none
def rn (c env : Nat → Int32) : Nat → Nat → List Int32 → Option (List Int32)
  | 0, _, st => some st
  | n + 1, i, st => match stp env (c i) st with
    | none => none
    | some s => rn c env n (i + 1) s
theorem rn_s (c env : Nat → Int32) (n i : Nat) (st : List Int32) : rn c env (n + 1) i st = match stp env (c i) st with
    | none => none
    | some s => rn c env n (i + 1) s := rfl
theorem rn_add {c env : Nat → Int32} : ∀ (n m i : Nat) (st s : List Int32), rn c env n i st = some s → rn c env (n + m) i st = rn c env m (i + n) s := by
  intro n
  induction n with
  | zero =>
    intro m i st s h
    have e : st = s := Option.some.inj h
    rw [Nat.zero_add, e]
    rfl
  | succ n ih =>
    intro m i st s h
    have e : n + 1 + m = (n + m) + 1 := by omega
    rw [e]
    rw [rn_s] at h ⊢
    cases hs : stp env (c i) st with
    | none => rw [hs] at h; cases h
    | some q =>
      rw [hs] at h
      have := ih m (i + 1) q s h
      rw [show i + 1 + n = i + (n + 1) by omega] at this
      exact this
theorem opne : ((-1 : Int32) = -2) = False ∧ ((-1 : Int32) = -3) = False ∧ ((-1 : Int32) = -4) = False ∧ ((-1 : Int32) = -5) = False ∧ ((-1 : Int32) = -6) = False ∧ ((-1 : Int32) = -7) = False ∧ ((-1 : Int32) = -8) = False ∧ ((-1 : Int32) = -9) = False ∧ ((-2 : Int32) = -1) = False ∧ ((-2 : Int32) = -3) = False ∧ ((-2 : Int32) = -4) = False ∧ ((-2 : Int32) = -5) = False ∧ ((-2 : Int32) = -6) = False ∧ ((-2 : Int32) = -7) = False ∧ ((-2 : Int32) = -8) = False ∧ ((-2 : Int32) = -9) = False ∧ ((-3 : Int32) = -1) = False ∧ ((-3 : Int32) = -2) = False ∧ ((-3 : Int32) = -4) = False ∧ ((-3 : Int32) = -5) = False ∧ ((-3 : Int32) = -6) = False ∧ ((-3 : Int32) = -7) = False ∧ ((-3 : Int32) = -8) = False ∧ ((-3 : Int32) = -9) = False ∧ ((-4 : Int32) = -1) = False ∧ ((-4 : Int32) = -2) = False ∧ ((-4 : Int32) = -3) = False ∧ ((-4 : Int32) = -5) = False ∧ ((-4 : Int32) = -6) = False ∧ ((-4 : Int32) = -7) = False ∧ ((-4 : Int32) = -8) = False ∧ ((-4 : Int32) = -9) = False ∧ ((-5 : Int32) = -1) = False ∧ ((-5 : Int32) = -2) = False ∧ ((-5 : Int32) = -3) = False ∧ ((-5 : Int32) = -4) = False ∧ ((-5 : Int32) = -6) = False ∧ ((-5 : Int32) = -7) = False ∧ ((-5 : Int32) = -8) = False ∧ ((-5 : Int32) = -9) = False ∧ ((-6 : Int32) = -1) = False ∧ ((-6 : Int32) = -2) = False ∧ ((-6 : Int32) = -3) = False ∧ ((-6 : Int32) = -4) = False ∧ ((-6 : Int32) = -5) = False ∧ ((-6 : Int32) = -7) = False ∧ ((-6 : Int32) = -8) = False ∧ ((-6 : Int32) = -9) = False ∧ ((-7 : Int32) = -1) = False ∧ ((-7 : Int32) = -2) = False ∧ ((-7 : Int32) = -3) = False ∧ ((-7 : Int32) = -4) = False ∧ ((-7 : Int32) = -5) = False ∧ ((-7 : Int32) = -6) = False ∧ ((-7 : Int32) = -8) = False ∧ ((-7 : Int32) = -9) = False ∧ ((-8 : Int32) = -1) = False ∧ ((-8 : Int32) = -2) = False ∧ ((-8 : Int32) = -3) = False ∧ ((-8 : Int32) = -4) = False ∧ ((-8 : Int32) = -5) = False ∧ ((-8 : Int32) = -6) = False ∧ ((-8 : Int32) = -7) = False ∧ ((-8 : Int32) = -9) = False ∧ ((-9 : Int32) = -1) = False ∧ ((-9 : Int32) = -2) = False ∧ ((-9 : Int32) = -3) = False ∧ ((-9 : Int32) = -4) = False ∧ ((-9 : Int32) = -5) = False ∧ ((-9 : Int32) = -6) = False ∧ ((-9 : Int32) = -7) = False ∧ ((-9 : Int32) = -8) = False := ⟨eq_false (by decide), eq_false (by decide), eq_false (by decide), eq_false (by decide), eq_false (by decide), eq_false (by decide), eq_false (by decide), eq_false (by decide), eq_false (by decide), eq_false (by decide), eq_false (by decide), eq_false (by decide), eq_false (by decide), eq_false (by decide), eq_false (by decide), eq_false (by decide), eq_false (by decide), eq_false (by decide), eq_false (by decide), eq_false (by decide), eq_false (by decide), eq_false (by decide), eq_false (by decide), eq_false (by decide), eq_false (by decide), eq_false (by decide), eq_false (by decide), eq_false (by decide), eq_false (by decide), eq_false (by decide), eq_false (by decide), eq_false (by decide), eq_false (by decide), eq_false (by decide), eq_false (by decide), eq_false (by decide), eq_false (by decide), eq_false (by decide), eq_false (by decide), eq_false (by decide), eq_false (by decide), eq_false (by decide), eq_false (by decide), eq_false (by decide), eq_false (by decide), eq_false (by decide), eq_false (by decide), eq_false (by decide), eq_false (by decide), eq_false (by decide), eq_false (by decide), eq_false (by decide), eq_false (by decide), eq_false (by decide), eq_false (by decide), eq_false (by decide), eq_false (by decide), eq_false (by decide), eq_false (by decide), eq_false (by decide), eq_false (by decide), eq_false (by decide), eq_false (by decide), eq_false (by decide), eq_false (by decide), eq_false (by decide), eq_false (by decide), eq_false (by decide), eq_false (by decide), eq_false (by decide), eq_false (by decide), eq_false (by decide)⟩
theorem joinM {σ : St} {op a b : Int32} (h9 : ¬ op < -9) (h0 : op < 0) (h7 : op ≠ -7) (hb : ¬ ((op = -8 ∨ op = -9) ∧ ¬ ((a = 0 ∨ a = 1) ∧ (b = 0 ∨ b = 1)))) : f12_joined σ (mpF op) a b = some (jnF op a b, σ) := by
  have e : ∀ v : Int64, f12_bounded σ v = some (bdF v, σ) := fun v => by
    unfold f12_bounded bdF
    by_cases h1 : (lg_cmp v (1000000000 : Int64)) ≤ (0 : Int32)
    · rw [if_pos h1, if_pos h1, some_if]
    · rw [if_neg h1, if_neg h1]
  have hop : op = -9 ∨ op = -8 ∨ op = -6 ∨ op = -5 ∨ op = -4 ∨ op = -3 ∨ op = -2 ∨ op = -1 := by
    simp only [t_lt, t_eq, Ne] at h9 h0 h7 ⊢
    have e0 : (0 : Int32).toInt = 0 := rfl
    have e1 : (-1 : Int32).toInt = -1 := rfl
    have e2 : (-2 : Int32).toInt = -2 := rfl
    have e3 : (-3 : Int32).toInt = -3 := rfl
    have e4 : (-4 : Int32).toInt = -4 := rfl
    have e5 : (-5 : Int32).toInt = -5 := rfl
    have e6 : (-6 : Int32).toInt = -6 := rfl
    have e7 : (-7 : Int32).toInt = -7 := rfl
    have e8 : (-8 : Int32).toInt = -8 := rfl
    have e9 : (-9 : Int32).toInt = -9 := rfl
    omega
  unfold f12_joined jnF mpF
  simp only [e, bd_1, some_if]
  rcases hop with rfl | rfl | rfl | rfl | rfl | rfl | rfl | rfl
  · have w := Decidable.not_not.mp (fun q => hb ⟨Or.inr rfl, q⟩)
    clear hb
    simp only [opne, if_false, if_true]
    obtain ⟨w1 | w1, w2 | w2⟩ := w <;> rw [w1, w2] <;> rfl
  · have w := Decidable.not_not.mp (fun q => hb ⟨Or.inl rfl, q⟩)
    clear hb
    simp only [opne, if_false, if_true]
    obtain ⟨w1 | w1, w2 | w2⟩ := w <;> rw [w1, w2] <;> rfl
  all_goals simp only [opne, if_false, if_true]
