/-- signs i .. j-1 are one value (b: of a condition) of names below 9 + l, no higher than need over what lies there -/
def Sg (c : Nat → Int32) (l i j need : Nat) (b : Bool) : Prop :=
  i ≤ j ∧ ∃ v : (Nat → Int32) → Int32, (∀ e e', (∀ s, s < 9 + l → e s = e' s) → v e = v e') ∧ (b = true → ∀ e, v e = 0 ∨ v e = 1) ∧ ∀ e st, st.length + need ≤ 60 → rn c e (j - i) i st = some (v e :: st)
theorem rn_1 (c env : Nat → Int32) (i : Nat) (st : List Int32) : rn c env 1 i st = stp env (c i) st := by
  rw [rn_s]
  cases stp env (c i) st <;> rfl
theorem stp_num {env : Nat → Int32} {k : Nat} {st : List Int32} (hk : k < 10000) (h : st.length + 1 ≤ 60) : stp env (nI k) st = some (nI k :: st) := by
  unfold stp
  rw [if_neg (nI_pos (by omega)), if_neg (by omega), if_pos (show nI k < 10000 from nI_lt (b := 10000) hk (by decide))]
theorem stp_name {env : Nat → Int32} {s : Nat} {st : List Int32} (hs : s < 15) (h : st.length + 1 ≤ 60) : stp env (nI (10000 + s)) st = some (env s :: st) := by
  unfold stp
  have e : nI (10000 + s) - 10000 = nI s := by
    have : nI (10000 + s) = nI s + 10000 := by rw [Nat.add_comm, ← nI_add]; rfl
    rw [this, Int32.add_sub_cancel]
  rw [if_neg (nI_pos (by omega)), if_neg (by omega), if_neg (show ¬ nI (10000 + s) < 10000 from nI_nlt (b := 10000) (by omega) (by omega)), if_pos (show nI (10000 + s) < 10015 from nI_lt (b := 10015) (by omega) (by decide)), e, ix_n (by omega)]
theorem stp_bin {env : Nat → Int32} {op a b : Int32} {st : List Int32} (h0 : op < 0) (h7 : op ≠ -7) (h9 : ¬ op < -9) (hb : ¬ ((op = -8 ∨ op = -9) ∧ ¬ ((a = 0 ∨ a = 1) ∧ (b = 0 ∨ b = 1)))) : stp env op (b :: a :: st) = some (jnF op a b :: st) := by
  unfold stp
  rw [if_pos h0, if_neg h7, if_neg h9]
  show (if _ then none else some _) = _
  rw [if_neg hb]
theorem Sg_num {c : Nat → Int32} {l i k : Nat} (hk : k < 10000) (h : c i = nI k) : Sg c l i (i + 1) 1 false :=
  ⟨by omega, fun _ => nI k, fun _ _ _ => rfl, fun q => absurd q (by decide), fun e st hs => by rw [show i + 1 - i = 1 by omega, rn_1, h, stp_num hk hs]⟩
theorem Sg_name {c : Nat → Int32} {l i s : Nat} (hl : l ≤ 6) (hs : s < 9 + l) (h : c i = nI (10000 + s)) : Sg c l i (i + 1) 1 false :=
  ⟨by omega, fun e => e s, fun _ _ q => q s hs, fun q => absurd q (by decide), fun e st hh => by rw [show i + 1 - i = 1 by omega, rn_1, h, stp_name (by omega) hh]⟩
theorem Sg_bin {c : Nat → Int32} {l i j k n m : Nat} {op : Int32} {p b : Bool} (x : Sg c l i j n p) (y : Sg c l j k m p) (h : c k = op) (h0 : op < 0) (h7 : op ≠ -7) (h9 : ¬ op < -9) (hp : op = -8 ∨ op = -9 → p = true) (hb : b = true → ∀ a d, (p = true → (a = 0 ∨ a = 1) ∧ (d = 0 ∨ d = 1)) → jnF op a d = 0 ∨ jnF op a d = 1) : Sg c l i (k + 1) (max n (m + 1)) b := by
  obtain ⟨ij, v, v1, v2, v3⟩ := x
  obtain ⟨jk, w, w1, w2, w3⟩ := y
  refine ⟨by omega, fun e => jnF op (v e) (w e), fun e e' q => ?_, fun q e => hb q _ _ (fun r => ⟨v2 r e, w2 r e⟩), fun e st hs => ?_⟩
  · show jnF op (v e) (w e) = jnF op (v e') (w e')
    rw [v1 e e' q, w1 e e' q]
  · have e1 := v3 e st (by omega)
    have e2 := w3 e (v e :: st) (by show st.length + 1 + m ≤ 60; omega)
    rw [show k + 1 - i = (j - i) + ((k - j) + 1) by omega, rn_add _ _ _ _ _ e1, show i + (j - i) = j by omega, rn_add _ _ _ _ _ e2, show j + (k - j) = k by omega, rn_1, h]
    exact stp_bin h0 h7 h9 (fun q => q.2 ⟨v2 (hp q.1) e, w2 (hp q.1) e⟩)
theorem Sg_not {c : Nat → Int32} {l i j n : Nat} (x : Sg c l i j n true) (h : c j = -7) : Sg c l i (j + 1) n true := by
  obtain ⟨ij, v, v1, v2, v3⟩ := x
  refine ⟨by omega, fun e => 1 - v e, fun e e' q => ?_, fun _ e => ?_, fun e st hs => ?_⟩
  · show 1 - v e = 1 - v e'
    rw [v1 e e' q]
  · rcases v2 rfl e with q | q
    · exact Or.inr (by show 1 - v e = 1; rw [q]; rfl)
    · exact Or.inl (by show 1 - v e = 0; rw [q]; rfl)
  · rw [show j + 1 - i = (j - i) + 1 by omega, rn_add _ _ _ _ _ (v3 e st hs), show i + (j - i) = j by omega, rn_1, h]
    rfl
theorem Sg_mo {c : Nat → Int32} {l i j n m : Nat} {b : Bool} (x : Sg c l i j n b) (h : n ≤ m) : Sg c l i j m b := by
  obtain ⟨ij, v, v1, v2, v3⟩ := x
  exact ⟨ij, v, v1, v2, fun e st hs => v3 e st (by omega)⟩
theorem rn_cg {c c' env : Nat → Int32} : ∀ (n i : Nat) (st : List Int32), (∀ q, i ≤ q → q < i + n → c q = c' q) → rn c env n i st = rn c' env n i st := by
  intro n
  induction n with
  | zero => intro i st _; rfl
  | succ n ih =>
    intro i st h
    rw [rn_s, rn_s, h i (by omega) (by omega)]
    cases stp env (c' i) st with
    | none => rfl
    | some s => exact ih (i + 1) s (fun q h1 h2 => h q (by omega) (by omega))
theorem Sg_cg {c c' : Nat → Int32} {l i j n : Nat} {b : Bool} (x : Sg c l i j n b) (h : ∀ q, i ≤ q → q < j → c q = c' q) : Sg c' l i j n b := by
  obtain ⟨ij, v, v1, v2, v3⟩ := x
  exact ⟨ij, v, v1, v2, fun e st hs => by rw [← rn_cg (c := c) (j - i) i st (fun q h1 h2 => h q h1 (by omega))]; exact v3 e st hs⟩
