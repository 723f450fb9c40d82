/-! THE REFERENCE'S RIVER: the same flows, powers and pulls -/
/-- where mills lie: ashore, gone, or at berths, no two at one -/
def LO (n : Nat) (f : Nat → Int32) : Prop := (∀ m, m < n → f m = -2 ∨ f m = -1 ∨ ∃ u, u < 72 ∧ f m = nI u) ∧ ∀ i j, i < n → j < n → f i = f j → 0 ≤ f i → i = j
theorem smF_add {f g : Nat → Int32} : ∀ n, smF (fun o => f o + g o) n = smF f n + smF g n := by
  intro n
  induction n with
  | zero => rfl
  | succ n ih => unfold smF; rw [ih]; ac_rfl
theorem smF_zero {q : Nat → Int32} : ∀ n, (∀ o, o < n → q o = 0) → smF q n = 0 := by
  intro n
  induction n with
  | zero => intro _; rfl
  | succ n ih => intro h; unfold smF; rw [ih (fun o ho => h o (by omega)), h n (by omega)]; rfl
theorem smF_one {q : Nat → Int32} {k : Nat} : ∀ n, k < n → (∀ o, o < n → o ≠ k → q o = 0) → smF q n = q k := by
  intro n
  induction n with
  | zero => intro h; omega
  | succ n ih =>
    intro hk h
    unfold smF
    by_cases e : n = k
    · subst e
      rw [smF_zero n (fun o ho => h o (by omega) (by omega)), Int32.zero_add]
    · rw [ih (by omega) (fun o ho => h o (by omega)), h n (by omega) e, Int32.add_zero]
def tbF (val : Int32) (wh f : Nat → Int32) (n b back : Nat) : Int32 :=
  if back ≤ b % 12 then (if lyF f (nI (b - back)) n 0 = -1 then 0 else val * wh (ix (lyF f (nI (b - back)) n 0)) * (4 - nI back) / 400) else 0
theorem nI_m1 {k : Nat} (h : k < 2147483648) : nI k ≠ -1 := fun e => by have := nI_pos' h; rw [e] at this; exact absurd this (by decide)
theorem sum_p {val : Int32} {wh f : Nat → Int32} {n b back : Nat} (h : LO n f) (hn : n ≤ 6) (hb : b < 72) :
    smF (fun o => if back ≤ b % 12 ∧ f o = nI (b - back) then val * wh o * (4 - nI back) / 400 else 0) n = tbF val wh f n b back := by
  unfold tbF
  by_cases hc : back ≤ b % 12
  · rw [if_pos hc]
    rcases lyF_sp (f := f) (b := nI (b - back)) n 0 with ⟨h1, h2⟩ | ⟨k, h1, h2, h3, h4, h5⟩
    · rw [if_pos h1]
      exact smF_zero n (fun o ho => if_neg (fun e => h2 o (by omega) (by omega) e.2))
    · rw [h3, if_neg (nI_m1 (by omega)), ix_n (by omega)]
      rw [smF_one (k := k) n (by omega) (fun o ho hne => if_neg (fun e => hne (h.2 o k ho (by omega) (by rw [e.2, h4]) (by rw [e.2]; exact nI_pos' (by omega)))))]
      rw [if_pos ⟨hc, h4⟩]
  · rw [if_neg hc]
    exact smF_zero n (fun o ho => if_neg (fun e => hc e.1))
theorem sh_split {val w x : Int32} {b : Nat} (hb : b < 72) (hx : x = -2 ∨ x = -1 ∨ ∃ u, u < 72 ∧ x = nI u) :
    shF val w x (nI b) = (if 1 ≤ b % 12 ∧ x = nI (b - 1) then val * w * (4 - nI 1) / 400 else 0) + (if 2 ≤ b % 12 ∧ x = nI (b - 2) then val * w * (4 - nI 2) / 400 else 0) + (if 3 ≤ b % 12 ∧ x = nI (b - 3) then val * w * (4 - nI 3) / 400 else 0) := by
  have ng : ∀ y : Int32, y < 0 → ∀ k, k < 72 → ¬ y = nI k := fun y hy k hk e => by rw [e] at hy; exact absurd hy (nI_pos (by omega))
  have z : (0 : Int32) + 0 + 0 = 0 := rfl
  unfold shF
  rcases hx with rfl | rfl | ⟨u, hu, rfl⟩
  · rw [if_pos (by decide), if_neg (fun e => ng _ (by decide) _ (by omega) e.2), if_neg (fun e => ng _ (by decide) _ (by omega) e.2), if_neg (fun e => ng _ (by decide) _ (by omega) e.2)]; rfl
  · rw [if_pos (by decide), if_neg (fun e => ng _ (by decide) _ (by omega) e.2), if_neg (fun e => ng _ (by decide) _ (by omega) e.2), if_neg (fun e => ng _ (by decide) _ (by omega) e.2)]; rfl
  · rw [if_neg (nI_pos (by omega)), n_div12 (by omega), n_div12 (by omega)]
    have eq : ∀ k, k < 72 → (nI u = nI k ↔ u = k) := fun k hk => nI_eq (by omega) (by omega)
    have e0 : (nI b - nI u).toInt = (b : Int) - u := pk_sub_toInt (by omega) (by omega)
    have l1 : nI b - nI u < 1 ↔ (b : Int) - u < 1 := by rw [t_lt, e0]; exact Iff.rfl
    have l2 : nI b - nI u ≤ 3 ↔ (b : Int) - u ≤ 3 := by rw [t_le, e0]; exact Iff.rfl
    have l3 : nI (u / 12) = nI (b / 12) ↔ u / 12 = b / 12 := nI_eq (by omega) (by omega)
    have ds : ∀ k : Nat, u + k = b → nI b - nI u = nI k := fun k hk => by rw [pk_sub (by omega)]; congr 1; omega
    by_cases c1 : u + 1 = b ∧ 1 ≤ b % 12
    · rw [if_pos (l3.mpr (by omega)), if_neg (fun e => by have := l1.mp e; omega), if_pos (l2.mpr (by omega)), if_pos ⟨c1.2, (eq _ (by omega)).mpr (by omega)⟩, if_neg (fun e => by have := (eq _ (by omega)).mp e.2; omega), if_neg (fun e => by have := (eq _ (by omega)).mp e.2; omega), ds 1 c1.1, Int32.add_zero, Int32.add_zero]
    · by_cases c2 : u + 2 = b ∧ 2 ≤ b % 12
      · rw [if_pos (l3.mpr (by omega)), if_neg (fun e => by have := l1.mp e; omega), if_pos (l2.mpr (by omega)), if_neg (fun e => by have := (eq _ (by omega)).mp e.2; omega), if_pos ⟨c2.2, (eq _ (by omega)).mpr (by omega)⟩, if_neg (fun e => by have := (eq _ (by omega)).mp e.2; omega), ds 2 c2.1, Int32.zero_add, Int32.add_zero]
      · by_cases c3 : u + 3 = b ∧ 3 ≤ b % 12
        · rw [if_pos (l3.mpr (by omega)), if_neg (fun e => by have := l1.mp e; omega), if_pos (l2.mpr (by omega)), if_neg (fun e => by have := (eq _ (by omega)).mp e.2; omega), if_neg (fun e => by have := (eq _ (by omega)).mp e.2; omega), if_pos ⟨c3.2, (eq _ (by omega)).mpr (by omega)⟩, ds 3 c3.1, Int32.zero_add, Int32.zero_add]
        · have r1 : (if 1 ≤ b % 12 ∧ nI u = nI (b - 1) then val * w * (4 - nI 1) / 400 else 0) = 0 := if_neg (fun e => by have := (eq _ (by omega)).mp e.2; omega)
          have r2 : (if 2 ≤ b % 12 ∧ nI u = nI (b - 2) then val * w * (4 - nI 2) / 400 else 0) = 0 := if_neg (fun e => by have := (eq _ (by omega)).mp e.2; omega)
          have r3 : (if 3 ≤ b % 12 ∧ nI u = nI (b - 3) then val * w * (4 - nI 3) / 400 else 0) = 0 := if_neg (fun e => by have := (eq _ (by omega)).mp e.2; omega)
          rw [r1, r2, r3, z]
          by_cases d1 : u / 12 = b / 12
          · rw [if_pos (l3.mpr d1)]
            by_cases d2 : (b : Int) - u < 1
            · rw [if_pos (l1.mpr d2)]
            · rw [if_neg (fun e => d2 (l1.mp e)), if_neg (fun e => by have := l2.mp e; omega)]
          · rw [if_neg (fun e => d1 (l3.mp e))]
theorem flF_sum {val : Int32} {wh f : Nat → Int32} {n b : Nat} (h : LO n f) (hn : n ≤ 6) (hb : b < 72) :
    smF (fun o => shF val (wh o) (f o) (nI b)) n = tbF val wh f n b 1 + tbF val wh f n b 2 + tbF val wh f n b 3 := by
  rw [← sum_p h hn hb, ← sum_p h hn hb, ← sum_p h hn hb, ← smF_add, ← smF_add]
  exact smF_congr n (fun o ho => sh_split hb (h.1 o ho))
