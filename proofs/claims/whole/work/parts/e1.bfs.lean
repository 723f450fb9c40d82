/-! BREADTH FIRST: what a queue of berths finds is the least number of steps, in whatever order neighbours come -/
def adj (u v : Nat) : Prop := u / 12 = v / 12 ∧ (u % 12 + 1 = v % 12 ∨ v % 12 + 1 = u % 12) ∨ u % 12 = v % 12 ∧ (u / 12 + 1 = v / 12 ∨ v / 12 + 1 = u / 12)
def Rk (st ok : Nat → Prop) : Nat → Nat → Prop
  | 0, v => st v
  | k + 1, v => Rk st ok k v ∨ ok v ∧ ∃ u, u < 72 ∧ Rk st ok k u ∧ adj u v
theorem Rk_or {st ok : Nat → Prop} : ∀ k v, Rk st ok k v → st v ∨ ok v := by
  intro k
  induction k with
  | zero => intro v h; exact Or.inl h
  | succ k ih =>
    intro v h
    rcases h with h | h
    · exact ih v h
    · exact Or.inr h.1
def exD (st ok : Nat → Prop) (k v : Nat) : Prop := Rk st ok k v ∧ ∀ j, j < k → ¬ Rk st ok j v
theorem exD_le {st ok : Nat → Prop} {k j v : Nat} (h : exD st ok k v) (r : Rk st ok j v) : k ≤ j := by
  rcases Nat.lt_or_ge j k with c | c
  · exact absurd r (h.2 j c)
  · exact c
def vis (far : Nat → Int32) (v : Nat) : Bool := decide (far v ≠ -1)
def un (f : Nat → Nat) (k v : Nat) (q : Nat) : Nat := if q = k then v else f q
/-- far: how far each is; Q: the queue of q; before i all is done -/
def BJ (b0 : Nat) (st ok : Nat → Prop) (far : Nat → Int32) (Q dd : Nat → Nat) (q i : Nat) : Prop :=
  (q ≤ 72 ∧ i ≤ q) ∧ (∀ j, j < q → Q j < 72 ∧ far (Q j) = nI (b0 + dd j) ∧ exD st ok (dd j) (Q j) ∧ dd j ≤ j) ∧ (∀ v, v < 72 → far v = -1 ∨ ∃ j, j < q ∧ Q j = v) ∧ (∀ j j', j ≤ j' → j' < q → dd j ≤ dd j') ∧
  (∀ j, i ≤ j → j < q → dd j ≤ dd i + 1) ∧ (∀ j, j < i → ∀ v, v < 72 → adj (Q j) v → ok v → far v ≠ -1) ∧ ctP (vis far) 72 = q
def BB (b0 : Nat) (st ok : Nat → Prop) (far : Nat → Int32) (Q dd : Nat → Nat) (q i : Nat) : Prop := BJ b0 st ok far Q dd q i ∧ ∀ v, v < 72 → st v → far v ≠ -1
def EX (far : Nat → Int32) (Q dd : Nat → Nat) (q : Nat) (far' : Nat → Int32) (Q' dd' : Nat → Nat) (q' : Nat) : Prop := q ≤ q' ∧ (∀ j, j < q → Q' j = Q j ∧ dd' j = dd j) ∧ ∀ v, v < 72 → far v ≠ -1 → far' v ≠ -1
theorem EX_rf {far : Nat → Int32} {Q dd : Nat → Nat} {q : Nat} : EX far Q dd q far Q dd q := ⟨Nat.le_refl _, fun _ _ => ⟨rfl, rfl⟩, fun _ _ h => h⟩
theorem EX_tr {f1 f2 f3 : Nat → Int32} {Q1 Q2 Q3 d1 d2 d3 : Nat → Nat} {q1 q2 q3 : Nat} (a : EX f1 Q1 d1 q1 f2 Q2 d2 q2) (b : EX f2 Q2 d2 q2 f3 Q3 d3 q3) : EX f1 Q1 d1 q1 f3 Q3 d3 q3 :=
  ⟨Nat.le_trans a.1 b.1, fun j hj => by
    have := b.2.1 j (Nat.lt_of_lt_of_le hj a.1)
    rw [this.1, this.2]
    exact a.2.1 j hj, fun v hv h => b.2.2 v hv (a.2.2 v hv h)⟩
theorem ctP_le6 {q : Nat → Bool} {w : Nat} (h : ¬ q w = true) : ∀ n, w < n → ctP q n + 1 ≤ n := by
  intro n
  induction n with
  | zero => intro hw; exact absurd hw (by omega)
  | succ n ih =>
    intro hw
    by_cases c : q n = true
    · rw [ctP_t c]
      have : w ≠ n := fun e => h (by rw [e]; exact c)
      have := ih (by omega)
      omega
    · rw [ctP_n c]
      have := ctP_n6 (q := q) n
      omega
theorem ctP_one {p q : Nat → Bool} {w : Nat} (h0 : ¬ p w = true) (h1 : q w = true) (e : ∀ k, k ≠ w → q k = p k) : ∀ n, ctP q n = if w < n then ctP p n + 1 else ctP p n := by
  intro n
  induction n with
  | zero => rfl
  | succ n ih =>
    by_cases c : n = w
    · rw [c] at ih ⊢
      rw [ctP_t h1, ctP_n h0, ih, if_neg (by omega), if_pos (by omega)]
    · have ee := e n c
      by_cases cp : p n = true
      · rw [ctP_t cp, ctP_t (by rw [ee]; exact cp), ih]
        by_cases lt : w < n
        · rw [if_pos lt, if_pos (by omega)]
        · rw [if_neg lt, if_neg (by omega)]
      · rw [ctP_n cp, ctP_n (by rw [ee]; exact cp), ih]
        by_cases lt : w < n
        · rw [if_pos lt, if_pos (by omega)]
        · rw [if_neg lt, if_neg (by omega)]
theorem nI_nm {k : Nat} (h : k < 1000) : nI k ≠ -1 := nI_m1 (by omega)
theorem room_q {b0 : Nat} {st ok : Nat → Prop} {far : Nat → Int32} {Q dd : Nat → Nat} {q i w : Nat} (B : BJ b0 st ok far Q dd q i) (hw : w < 72) (fw : far w = -1) : q < 72 := by
  have h : ¬ vis far w = true := fun c => (of_decide_eq_true c) fw
  have := ctP_le6 h 72 hw
  rw [B.2.2.2.2.2.2] at this
  omega
theorem BJ_put {b0 : Nat} {st ok : Nat → Prop} {far : Nat → Int32} {Q dd : Nat → Nat} {q i w x : Nat} (B : BJ b0 st ok far Q dd q i) (hb : b0 ≤ 1) (hw : w < 72) (fw : far w = -1) (ex : exD st ok x w) (hx : x ≤ q) (mo : ∀ j, j < q → dd j ≤ x) (up : i < q → x ≤ dd i + 1) : BJ b0 st ok (ud far w (nI (b0 + x))) (un Q q w) (un dd q x) (q + 1) i := by
  have rq := room_q B hw fw
  obtain ⟨⟨b1, b1'⟩, b2, b3, b4, b5, b6, b7⟩ := B
  have old : ∀ j, j < q → un Q q w j = Q j ∧ un dd q x j = dd j := fun j hj => by
    unfold un
    rw [if_neg (by omega), if_neg (by omega)]
    exact ⟨rfl, rfl⟩
  have new : un Q q w q = w ∧ un dd q x q = x := by
    unfold un
    rw [if_pos rfl, if_pos rfl]
    exact ⟨rfl, rfl⟩
  have ne : ∀ j, j < q → Q j ≠ w := fun j hj e => by
    have := (b2 j hj).2.1
    rw [e, fw] at this
    exact nI_nm (by have := (b2 j hj).2.2.2; omega) this.symm
  have fo : ∀ v, v ≠ w → ud far w (nI (b0 + x)) v = far v := fun v hv => by unfold ud; rw [if_neg hv]
  have fn : ud far w (nI (b0 + x)) w = nI (b0 + x) := by unfold ud; rw [if_pos rfl]
  refine ⟨⟨by omega, by omega⟩, fun j hj => ?_, fun v hv => ?_, fun j j' h1 h2 => ?_, fun j h1 h2 => ?_, fun j hj v hv a k => ?_, ?_⟩
  · by_cases c : j = q
    · rw [c, new.1, new.2, fn]; exact ⟨hw, rfl, ex, hx⟩
    · have lt : j < q := by omega
      rw [(old j lt).1, (old j lt).2, fo _ (ne j lt)]; exact b2 j lt
  · by_cases c : v = w
    · exact Or.inr ⟨q, by omega, by rw [new.1, c]⟩
    · rw [fo v c]
      rcases b3 v hv with h | ⟨j, h1, h2⟩
      · exact Or.inl h
      · exact Or.inr ⟨j, by omega, by rw [(old j h1).1]; exact h2⟩
  · by_cases c : j' = q
    · rw [c, new.2]
      by_cases c2 : j = q
      · rw [c2, new.2]; exact Nat.le_refl _
      · rw [(old j (by omega)).2]; exact mo j (by omega)
    · rw [(old j' (by omega)).2, (old j (by omega)).2]; exact b4 j j' h1 (by omega)
  · by_cases c : j = q
    · rw [c, new.2]
      by_cases c2 : i = q
      · rw [c2, new.2]; omega
      · rw [(old i (by omega)).2]; exact up (by omega)
    · rw [(old j (by omega)).2, (old i (by omega)).2]; exact b5 j h1 (by omega)
  · rw [(old j (by omega)).1] at a
    by_cases c : v = w
    · rw [c, fn]; exact nI_nm (by omega)
    · rw [fo v c]; exact b6 j hj v hv a k
  · rw [ctP_one (p := vis far) (w := w) (fun c => (of_decide_eq_true c) fw) (decide_eq_true (by rw [fn]; exact nI_nm (by omega))) (fun k hk => by unfold vis; rw [fo k hk]) 72, if_pos hw, b7]
theorem EX_put {far : Nat → Int32} {Q dd : Nat → Nat} {q w x y : Nat} (hy : y < 1000) : EX far Q dd q (ud far w (nI y)) (un Q q w) (un dd q x) (q + 1) :=
  ⟨by omega, fun j hj => by
    unfold un
    rw [if_neg (by omega), if_neg (by omega)]
    exact ⟨rfl, rfl⟩, fun v hv h => by
    unfold ud
    by_cases c : v = w
    · rw [if_pos c]; exact nI_nm hy
    · rw [if_neg c]; exact h⟩
/-- all that is no further than the head is seen -/
theorem BB_below {b0 : Nat} {st ok : Nat → Prop} {far : Nat → Int32} {Q dd : Nat → Nat} {q i : Nat} (B : BB b0 st ok far Q dd q i) : ∀ k, (i < q → k ≤ dd i) → ∀ v, v < 72 → Rk st ok k v → far v ≠ -1 := by
  obtain ⟨⟨⟨b1, b1'⟩, b2, b3, b4, b5, b6, b7⟩, b8⟩ := B
  intro k
  induction k with
  | zero => intro _ v hv h; exact b8 v hv h
  | succ k ih =>
    intro hk v hv h
    rcases h with h | ⟨h1, u, h2, h3, h4⟩
    · exact ih (fun w => by have := hk w; omega) v hv h
    · have fu := ih (fun w => by have := hk w; omega) u h2 h3
      rcases b3 u h2 with h | ⟨j, hj, rfl⟩
      · exact absurd h fu
      · have dj := exD_le (b2 j hj).2.2.1 h3
        have ji : j < i := by
          rcases Nat.lt_or_ge j i with c | c
          · exact c
          · have iq : i < q := by omega
            have := hk iq
            have := b4 i j c hj
            omega
        exact b6 j ji v hv h4 h1
/-- a neighbour not seen yet -/
theorem BB_new {b0 : Nat} {st ok : Nat → Prop} {far : Nat → Int32} {Q dd : Nat → Nat} {q i w : Nat} (B : BB b0 st ok far Q dd q i) (hb : b0 ≤ 1) (hi : i < q) (hw : w < 72) (fw : far w = -1) (kw : ok w) (a : adj (Q i) w) : BB b0 st ok (ud far w (nI (b0 + (dd i + 1)))) (un Q q w) (un dd q (dd i + 1)) (q + 1) i := by
  have b2 := B.1.2.1
  have ex : exD st ok (dd i + 1) w := ⟨Or.inr ⟨kw, Q i, (b2 i hi).1, (b2 i hi).2.2.1.1, a⟩, fun j hj r => BB_below B j (fun _ => by omega) w hw r fw⟩
  have di := (b2 i hi).2.2.2
  refine ⟨BJ_put B.1 hb hw fw ex (by omega) (fun j hj => ?_) (fun _ => Nat.le_refl _), fun v hv h => ?_⟩
  · rcases Nat.lt_or_ge j i with c | c
    · have := B.1.2.2.2.1 j i (by omega) hi; omega
    · exact B.1.2.2.2.2.1 j c hj
  · have q72 := room_q B.1 hw fw
    exact (EX_put (Q := Q) (dd := dd) (q := q) (x := 0) (by omega)).2.2 v hv (B.2 v hv h)
/-- the head is done -/
theorem BB_next {b0 : Nat} {st ok : Nat → Prop} {far : Nat → Int32} {Q dd : Nat → Nat} {q i : Nat} (B : BB b0 st ok far Q dd q i) (hi : i < q) (al : ∀ v, v < 72 → adj (Q i) v → ok v → far v ≠ -1) : BB b0 st ok far Q dd q (i + 1) := by
  obtain ⟨⟨⟨b1, b1'⟩, b2, b3, b4, b5, b6, b7⟩, b8⟩ := B
  refine ⟨⟨⟨b1, by omega⟩, b2, b3, b4, fun j h1 h2 => ?_, fun j hj v hv a k => ?_, b7⟩, b8⟩
  · have := b5 j (by omega) h2
    have := b4 i (i + 1) (by omega) (by omega)
    omega
  · by_cases c : j = i
    · rw [c] at a; exact al v hv a k
    · exact b6 j (by omega) v hv a k
/-- what is found -/
def RES (b : Nat) (st ok tg : Nat → Prop) (r : Int32) : Prop := (∃ k v, k ≤ 72 ∧ v < 72 ∧ tg v ∧ Rk st ok k v ∧ (∀ k', k' < k → ∀ v', v' < 72 → tg v' → ¬ Rk st ok k' v') ∧ r = nI (b + k)) ∨ ((∀ k v, v < 72 → tg v → ¬ Rk st ok k v) ∧ r = -1)
theorem RES_one {b : Nat} {st ok tg : Nat → Prop} {r s : Int32} (h1 : RES b st ok tg r) (h2 : RES b st ok tg s) : r = s := by
  rcases h1 with ⟨k, v, a1, a2, a3, a4, a5, rfl⟩ | ⟨a1, rfl⟩
  · rcases h2 with ⟨k', v', c1, c2, c3, c4, c5, rfl⟩ | ⟨c1, rfl⟩
    · have e : k = k' := by
        rcases Nat.lt_trichotomy k k' with c | c | c
        · exact absurd a4 (c5 k c v a2 a3)
        · exact c
        · exact absurd c4 (a5 k' c v' c2 c3)
      rw [e]
    · exact absurd a4 (c1 k v a2 a3)
  · rcases h2 with ⟨k', v', c1, c2, c3, c4, c5, rfl⟩ | ⟨c1, rfl⟩
    · exact absurd c4 (a1 k' v' c2 c3)
    · rfl
theorem RES_at {b0 e : Nat} {st ok tg : Nat → Prop} {far : Nat → Int32} {Q dd : Nat → Nat} {q i : Nat} (B : BB b0 st ok far Q dd q i) (hi : i < q) (no : ∀ j, j < i → ¬ tg (Q j)) (t : tg (Q i)) : RES (b0 + e) st ok tg (far (Q i) + nI e) := by
  have b2 := B.1.2.1
  refine Or.inl ⟨dd i, Q i, by have := (b2 i hi).2.2.2; have := B.1.1.1; omega, (b2 i hi).1, t, (b2 i hi).2.2.1.1, fun k hk v hv tv r => ?_, ?_⟩
  · have fv := BB_below B k (fun _ => by omega) v hv r
    rcases B.1.2.2.1 v hv with h | ⟨j, hj, rfl⟩
    · exact fv h
    · have dj := exD_le (b2 j hj).2.2.1 r
      rcases Nat.lt_or_ge j i with c | c
      · exact no j c tv
      · have := B.1.2.2.2.1 i j c hj; omega
  · rw [(b2 i hi).2.1, nI_add]
    congr 1
    omega
theorem RES_end {b0 b : Nat} {st ok tg : Nat → Prop} {far : Nat → Int32} {Q dd : Nat → Nat} {q : Nat} (B : BB b0 st ok far Q dd q q) (no : ∀ j, j < q → ¬ tg (Q j)) : RES b st ok tg (-1) := by
  refine Or.inr ⟨fun k v hv tv r => ?_, rfl⟩
  have fv := BB_below B k (fun w => absurd w (by omega)) v hv r
  rcases B.1.2.2.1 v hv with h | ⟨j, hj, rfl⟩
  · exact fv h
  · exact no j hj tv
/-- where to start: nowhere yet -/
theorem BJ_0 {b0 : Nat} {st ok : Nat → Prop} {far : Nat → Int32} (h : ∀ v, v < 72 → far v = -1) : BJ b0 st ok far (fun _ => 0) (fun _ => 0) 0 0 := by
  refine ⟨⟨by omega, by omega⟩, fun j hj => absurd hj (by omega), fun v hv => Or.inl (h v hv), fun j j' _ hj => absurd hj (by omega), fun j _ hj => absurd hj (by omega), fun j hj => absurd hj (by omega), ?_⟩
  exact ctP_gap (q := vis far) (a := 0) (b := 72) (by omega) (fun k _ hk c => (of_decide_eq_true c) (h k hk))
theorem BJ_st {b0 : Nat} {st ok : Nat → Prop} {far : Nat → Int32} {Q dd : Nat → Nat} {q w : Nat} (B : BJ b0 st ok far Q dd q 0) (z : ∀ j, dd j = 0) (hb : b0 ≤ 1) (hw : w < 72) (fw : far w = -1) (s : st w) : BJ b0 st ok (ud far w (nI b0)) (un Q q w) (un dd q 0) (q + 1) 0 ∧ ∀ j, un dd q 0 j = 0 :=
  ⟨BJ_put (x := 0) B hb hw fw ⟨s, fun j hj => absurd hj (by omega)⟩ (by omega) (fun j _ => by rw [z]; exact Nat.le_refl _) (fun _ => by omega), fun j => by
    unfold un
    by_cases c : j = q
    · rw [if_pos c]
    · rw [if_neg c]; exact z j⟩
