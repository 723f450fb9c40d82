/-! THE START: cells as they are made, row by row -/
def KTl : List (Nat × Nat) := [(0, 0), (11, 9), (8, 6), (14, 72), (19, 7), (17, 6), (14, 6), (14, 6), (9, 3), (14, 8), (14, 8), (9, 3), (14, 8), (14, 8), (9, 3), (14, 8), (14, 8), (9, 3), (14, 8), (14, 8), (9, 3), (14, 8), (14, 8), (9, 3), (14, 8), (14, 8), (9, 3), (14, 8), (14, 8), (0, 7), (0, 7), (0, 7), (0, 7), (0, 7), (0, 7), (4, 8), (1, 4), (14, 200), (14, 200), (14, 200), (1, 4), (14, 200), (14, 200), (14, 200), (18, 2), (20, 24), (7, 13), (14, 401), (14, 401), (15, 401), (15, 10), (15, 15), (10, 7), (14, 400), (14, 20), (14, 20), (14, 20), (14, 20), (14, 15), (14, 64), (1, 4), (14, 12), (14, 12), (14, 12), (1, 4), (14, 12), (14, 12), (14, 12), (2, 6), (14, 1500), (3, 10), (14, 2), (14, 2), (14, 60), (14, 60), (14, 60), (14, 60), (14, 60), (6, 16), (14, 6), (14, 3), (21, 3), (14, 25), (14, 25), (14, 25), (14, 3), (21, 3), (14, 25), (14, 25), (14, 25), (14, 4), (14, 12), (14, 6), (14, 6), (5, 10), (14, 3), (14, 3), (14, 6), (14, 72), (14, 72), (14, 400), (12, 79), (14, 72), (14, 7), (14, 56), (14, 56), (14, 6), (14, 6), (14, 6), (14, 6), (14, 6), (14, 6), (14, 6), (14, 6), (14, 200), (14, 200), (14, 200), (14, 200), (16, 200), (14, 200), (14, 10500), (14, 25), (14, 25), (14, 500), (14, 500), (14, 500), (14, 500), (14, 500), (14, 25), (14, 25), (14, 2), (13, 400), (13, 48), (14, 6), (14, 15), (14, 420), (14, 1500), (14, 2), (14, 2), (14, 60), (14, 60), (14, 60), (14, 60), (14, 60), (14, 6), (14, 6), (14, 6), (16, 432), (14, 12), (14, 6), (14, 6), (14, 72), (14, 72), (15, 1)]
def KT (a : Nat) : Nat × Nat := KTl.getD a (0, 0)
def RTl : List (Nat × Nat × Nat) := [(1, 0, 2), (1, 1, 35), (1, 2, 68), (1, 3, 70), (1, 4, 78), (1, 5, 94), (1, 6, 100), (2, 0, 3), (2, 1, 4), (2, 2, 5), (2, 3, 6), (2, 4, 7), (4, 0, 8), (4, 1, 11), (4, 2, 14), (4, 3, 17), (4, 4, 20), (4, 5, 23), (4, 6, 26), (5, 0, 29), (5, 1, 30), (5, 2, 31), (5, 3, 32), (5, 4, 33), (5, 5, 34), (8, 0, 9), (8, 1, 10), (11, 0, 12), (11, 1, 13), (14, 0, 15), (14, 1, 16), (17, 0, 18), (17, 1, 19), (20, 0, 21), (20, 1, 22), (23, 0, 24), (23, 1, 25), (26, 0, 27), (26, 1, 28), (35, 0, 2), (35, 1, 36), (35, 2, 40), (35, 3, 44), (35, 4, 45), (35, 5, 46), (35, 6, 58), (35, 7, 59), (36, 0, 37), (36, 1, 38), (36, 2, 39), (40, 0, 41), (40, 1, 42), (40, 2, 43), (44, 0, 60), (44, 1, 64), (46, 0, 47), (46, 1, 48), (46, 2, 49), (46, 3, 50), (46, 4, 51), (46, 5, 52), (52, 0, 53), (52, 1, 54), (52, 2, 55), (52, 3, 56), (52, 4, 57), (60, 0, 61), (60, 1, 62), (60, 2, 63), (64, 0, 65), (64, 1, 66), (64, 2, 67), (68, 0, 2), (68, 1, 69), (70, 0, 2), (70, 1, 35), (70, 2, 71), (70, 3, 72), (70, 4, 73), (70, 5, 74), (70, 6, 75), (70, 7, 76), (70, 8, 77), (78, 0, 2), (78, 1, 35), (78, 2, 79), (78, 4, 80), (78, 5, 81), (78, 6, 85), (78, 7, 86), (78, 8, 90), (78, 9, 91), (78, 10, 92), (78, 11, 93), (81, 0, 82), (81, 1, 83), (81, 2, 84), (86, 0, 87), (86, 1, 88), (86, 2, 89), (94, 0, 2), (94, 1, 78), (94, 2, 95), (94, 3, 96), (94, 4, 97), (94, 5, 98), (94, 6, 99), (101, 1, 102), (101, 2, 103), (101, 3, 104), (101, 4, 105), (101, 6, 106), (101, 7, 107), (101, 8, 108), (101, 9, 109), (101, 10, 110), (101, 11, 111), (101, 12, 112), (101, 13, 113), (101, 16, 114), (101, 17, 115), (101, 18, 116), (101, 20, 117), (101, 21, 118), (101, 22, 119), (101, 23, 120), (101, 24, 121), (101, 25, 122), (101, 26, 123), (101, 27, 124), (101, 28, 125), (101, 29, 126), (101, 30, 127), (101, 31, 128), (101, 32, 129), (101, 33, 130), (101, 34, 131), (101, 45, 132), (101, 46, 133), (101, 47, 134), (101, 48, 135), (101, 50, 136), (101, 53, 137), (101, 54, 138), (101, 56, 139), (101, 57, 140), (101, 58, 141), (101, 59, 142), (101, 60, 143), (101, 63, 144), (101, 64, 145), (101, 65, 146), (101, 66, 147), (101, 67, 148), (101, 74, 149), (101, 75, 150), (101, 77, 151), (101, 78, 152)]
def rlk : List (Nat × Nat × Nat) → Nat → Nat → Nat
  | [], _, _ => 0
  | q :: t, a, k => if q.1 = a ∧ q.2.1 = k then q.2.2 else rlk t a k
def RT (a k : Nat) : Nat := rlk RTl a k
def lkI : List (Nat × Nat × Int32) → Nat → Nat → Int32
  | [], _, _ => 0
  | q :: t, b, j => if b = q.1 ∧ j = q.2.1 then q.2.2 else lkI t b j
def lkL : List (Nat × (Nat → Int64)) → Nat → Nat → Int64
  | [], _, _ => 0
  | q :: t, b, j => if b = q.1 then q.2 j else lkL t b j
theorem lkI_z {n : Nat} : ∀ {is : List (Nat × Nat × Int32)}, (∀ q ∈ is, q.1 ≤ n) → ∀ b j, n < b → lkI is b j = 0 := by
  intro is
  induction is with
  | nil => intro _ b j _; rfl
  | cons q t ih =>
    intro h b j hb
    have := h q List.mem_cons_self
    unfold lkI
    rw [if_neg (by omega)]
    exact ih (fun q hq => h q (List.mem_cons_of_mem _ hq)) b j hb
theorem lkL_z {n : Nat} : ∀ {ls : List (Nat × (Nat → Int64))}, (∀ q ∈ ls, q.1 ≤ n) → ∀ b j, n < b → lkL ls b j = 0 := by
  intro ls
  induction ls with
  | nil => intro _ b j _; rfl
  | cons q t ih =>
    intro h b j hb
    have := h q List.mem_cons_self
    unfold lkL
    rw [if_neg (by omega)]
    exact ih (fun q hq => h q (List.mem_cons_of_mem _ hq)) b j hb
/-- n cells are made, U slots; ds: the references written; is, ls: numbers that aren't 0 -/
def ST (n U : Nat) (ds : List (Nat × Nat)) (is : List (Nat × Nat × Int32)) (ls : List (Nat × (Nat → Int64))) (σ : St) : Prop :=
  (sN σ = n ∧ sU σ = U) ∧ (∀ b, 1 ≤ b → b ≤ n → sK σ b = KT b) ∧ ((∀ b j, sI σ b j = lkI is b j) ∧ ∀ q ∈ is, q.1 ≤ n) ∧ ((∀ b j, sL σ b j = lkL ls b j) ∧ ∀ q ∈ ls, q.1 ≤ n) ∧ ∀ q ∈ ds, q.1 ≤ n ∧ sR σ q.1 q.2 = RT q.1 q.2
def EVs (x : Option (Unit × St)) (Q : St → Prop) : Prop := ∃ τ, x = some ((), τ) ∧ Q τ
section
variable {n U : Nat} {ds : List (Nat × Nat)} {is : List (Nat × Nat × Int32)} {ls : List (Nat × (Nat → Int64))} {σ : St} {Q : St → Prop}
theorem e_num {g : Nat → Option (Unit × St)} {n' : Nat} (S : ST n U ds is ls σ) (h : n + 1 = n') (k : EVs (g n') Q) : EVs (lt (sN σ + 1) g) Q := by
  rw [lt_b, S.1.1, h]; exact k
theorem ST_N {k len : Nat} (S : ST n U ds is ls σ) (h : KT (n + 1) = (k, len)) : ST (n + 1) (U + len) ds is ls (wN σ k len) := by
  obtain ⟨⟨s1, s2⟩, s3, ⟨s4, s4'⟩, ⟨s5, s5'⟩, s6⟩ := S
  refine ⟨⟨?_, ?_⟩, fun b h1 h2 => ?_, ⟨fun b j => ?_, fun q hq => ?_⟩, ⟨fun b j => ?_, fun q hq => ?_⟩, fun q hq => ?_⟩
  · show sN σ + 1 = _
    rw [s1]
  · show sU σ + len = _
    rw [s2]
  · show (if b = sN σ + 1 then (k, len) else sK σ b) = _
    rw [s1]
    by_cases e : b = n + 1
    · rw [if_pos e, e, h]
    · rw [if_neg e]; exact s3 b h1 (by omega)
  · show (if b = sN σ + 1 then 0 else sI σ b j) = _
    rw [s1]
    by_cases e : b = n + 1
    · rw [if_pos e, lkI_z s4' b j (by omega)]
    · rw [if_neg e]; exact s4 b j
  · have := s4' q hq; omega
  · show (if b = sN σ + 1 then 0 else sL σ b j) = _
    rw [s1]
    by_cases e : b = n + 1
    · rw [if_pos e, lkL_z s5' b j (by omega)]
    · rw [if_neg e]; exact s5 b j
  · have := s5' q hq; omega
  · obtain ⟨h1, h2⟩ := s6 q hq
    refine ⟨by omega, ?_⟩
    show (if q.1 = sN σ + 1 then 0 else sR σ q.1 q.2) = _
    rw [s1, if_neg (by omega)]
    exact h2
theorem e_N {g : St → Option (Unit × St)} {k len n' U' : Nat} (S : ST n U ds is ls σ) (h : KT (n + 1) = (k, len)) (hn : n + 1 = n') (hu : U + len = U') (kk : ∀ t, ST n' U' ds is ls t → EVs (g t) Q) : EVs (lt (wN σ k len) g) Q := by
  subst hn
  subst hu
  exact kk _ (ST_N S h)
theorem e_M {g : St → Option (Unit × St)} {N K n' U' : Nat} (S : ST n U ds is ls σ) (h : KT (n + 1) = (21, N)) (h2 : ∀ i, i < N → KT (n + 2 + i) = (14, K)) (h3 : ∀ i, i < N → RT (n + 1) i = n + 2 + i) (hn : n + (1 + N) = n') (hu : U + (N + N * K) = U') (kk : ∀ t, ST n' U' ((List.range N).map (fun i => (n + 1, i)) ++ ds) is ls t → EVs (g t) Q) : EVs (lt (wM σ N K) g) Q := by
  subst hn
  subst hu
  refine kk _ ?_
  obtain ⟨⟨s1, s2⟩, s3, ⟨s4, s4'⟩, ⟨s5, s5'⟩, s6⟩ := S
  refine ⟨⟨?_, ?_⟩, fun b b1 b2 => ?_, ⟨fun b j => ?_, fun q hq => ?_⟩, ⟨fun b j => ?_, fun q hq => ?_⟩, fun q hq => ?_⟩
  · show sN σ + (1 + N) = _
    rw [s1]
  · show sU σ + (N + N * K) = _
    rw [s2]
  · show (if b = sN σ + 1 then (21, N) else if sN σ + 1 < b ∧ b ≤ sN σ + 1 + N then (14, K) else sK σ b) = _
    rw [s1]
    by_cases e : b = n + 1
    · rw [if_pos e, e, h]
    · rw [if_neg e]
      by_cases e2 : n + 1 < b ∧ b ≤ n + 1 + N
      · have := h2 (b - (n + 2)) (by omega)
        rw [show n + 2 + (b - (n + 2)) = b by omega] at this
        rw [if_pos e2, this]
      · rw [if_neg e2]; exact s3 b b1 (by omega)
  · show (if sN σ < b ∧ b ≤ sN σ + 1 + N then 0 else sI σ b j) = _
    rw [s1]
    by_cases e : n < b ∧ b ≤ n + 1 + N
    · rw [if_pos e, lkI_z s4' b j (by omega)]
    · rw [if_neg e]; exact s4 b j
  · have := s4' q hq; omega
  · show (if sN σ < b ∧ b ≤ sN σ + 1 + N then 0 else sL σ b j) = _
    rw [s1]
    by_cases e : n < b ∧ b ≤ n + 1 + N
    · rw [if_pos e, lkL_z s5' b j (by omega)]
    · rw [if_neg e]; exact s5 b j
  · have := s5' q hq; omega
  · rcases List.mem_append.mp hq with hq | hq
    · obtain ⟨i, hi, rfl⟩ := List.mem_map.mp hq
      have hi := List.mem_range.mp hi
      refine ⟨by show n + 1 ≤ _; omega, ?_⟩
      show (if n + 1 = sN σ + 1 then (if i < N then sN σ + 2 + i else 0) else _) = _
      rw [s1, if_pos rfl, if_pos hi, h3 i hi]
    · obtain ⟨g1, g2⟩ := s6 q hq
      refine ⟨by omega, ?_⟩
      show (if q.1 = sN σ + 1 then _ else if sN σ < q.1 ∧ _ then 0 else sR σ q.1 q.2) = _
      rw [s1, if_neg (by omega), if_neg (by omega)]
      exact g2
theorem e_R {g : St → Option (Unit × St)} {a k k' v : Nat} (S : ST n U ds is ls σ) (ha : a ≤ n) (hv : RT a k = v) (hk : k' = k) (kk : ∀ t, ST n U ((a, k) :: ds) is ls t → EVs (g t) Q) : EVs (lt (wR σ a k' v) g) Q := by
  subst hk
  refine kk _ ?_
  obtain ⟨s1, s3, s4, s5, s6⟩ := S
  refine ⟨s1, s3, s4, s5, fun q hq => ?_⟩
  rcases List.mem_cons.mp hq with e | hq
  · subst e
    refine ⟨ha, ?_⟩
    show (if a = a ∧ k' = k' then v else _) = _
    rw [if_pos ⟨rfl, rfl⟩, hv]
  · obtain ⟨g1, g2⟩ := s6 q hq
    refine ⟨g1, ?_⟩
    show (if q.1 = a ∧ q.2 = k' then v else sR σ q.1 q.2) = _
    by_cases e : q.1 = a ∧ q.2 = k'
    · rw [if_pos e, e.1, e.2, hv]
    · rw [if_neg e]; exact g2
theorem e_I {g : St → Option (Unit × St)} {a k k' : Nat} {v : Int32} (S : ST n U ds is ls σ) (ha : a ≤ n) (hk : k' = k) (kk : ∀ t, ST n U ds ((a, k, v) :: is) ls t → EVs (g t) Q) : EVs (lt (wI σ a k' v) g) Q := by
  subst hk
  refine kk _ ?_
  obtain ⟨s1, s3, ⟨s4, s4'⟩, s5, s6⟩ := S
  refine ⟨s1, s3, ⟨fun b j => ?_, fun q hq => ?_⟩, s5, s6⟩
  · show (if b = a ∧ j = k' then v else sI σ b j) = (if b = a ∧ j = k' then v else lkI is b j)
    rw [s4]
  · rcases List.mem_cons.mp hq with e | hq
    · subst e; exact ha
    · exact s4' q hq
theorem e_rd {g : Nat → Option (Unit × St)} {a k v : Nat} (S : ST n U ds is ls σ) (hm : (a, k) ∈ ds) (hv : RT a k = v) (kk : EVs (g v) Q) : EVs (lt (sR σ a k) g) Q := by
  rw [lt_b, (S.2.2.2.2 _ hm).2, hv]; exact kk
theorem e_gd {b : Bool} {x : Option (Unit × St)} (h : b = true) (k : EVs x Q) : EVs (gd b x) Q := by rw [gd_t h]; exact k
theorem e_lt {α : Type} {g : α → Option (Unit × St)} {a v : α} (h : a = v) (k : EVs (g v) Q) : EVs (lt a g) Q := by rw [lt_b, h]; exact k
theorem e_max {g : Int32 → St → Option (Unit × St)} {a b v : Int32} (h : (if a < b then b else a) = v) (k : EVs (g v σ) Q) : EVs (bd (fJ9_max_7cf53 σ a b) g) Q := by
  have e : fJ9_max_7cf53 σ a b = some (v, σ) := by
    unfold fJ9_max_7cf53
    by_cases c : a < b
    · rw [if_pos c] at h ⊢; rw [h]
    · rw [if_neg c] at h ⊢; rw [h]
  rw [bd_s e]; exact k
theorem e_bd {x : Option (Unit × St)} {g : Unit → St → Option (Unit × St)} {Q' : St → Prop} (h1 : EVs x Q') (h2 : ∀ t, Q' t → EVs (g () t) Q) : EVs (bd x g) Q := by
  obtain ⟨t, h, q⟩ := h1
  rw [bd_s h]; exact h2 t q
theorem e_ret (S : ST n U ds is ls σ) : EVs (some ((), σ)) (ST n U ds is ls) := ⟨σ, rfl, S⟩
theorem e_ifT {p : Prop} [Decidable p] {x y : Option (Unit × St)} (h : p) (k : EVs x Q) : EVs (if p then x else y) Q := by rw [if_pos h]; exact k
theorem e_ifF {p : Prop} [Decidable p] {x y : Option (Unit × St)} (h : ¬ p) (k : EVs y Q) : EVs (if p then x else y) Q := by rw [if_neg h]; exact k
theorem S_ob {a k len : Nat} (S : ST n U ds is ls σ) (h : KT a = (k, len)) (h1 : 1 ≤ a) (h2 : a ≤ n) : ob σ a k = true := by
  simp only [ob, Bool.and_eq_true, beq_iff_eq, decide_eq_true_eq]
  rw [S.2.1 a h1 h2, h, S.1.1]
  exact ⟨rfl, h1, h2⟩
theorem S_len {a k len : Nat} (S : ST n U ds is ls σ) (h : KT a = (k, len)) (h1 : 1 ≤ a) (h2 : a ≤ n) : (sK σ a).2 = len := by rw [S.2.1 a h1 h2, h]
theorem S_inb {a k len : Nat} {i : Int32} (S : ST n U ds is ls σ) (h : KT a = (k, len)) (h1 : 1 ≤ a) (h2 : a ≤ n) (hi : 0 ≤ i.toInt ∧ i.toInt < (len : Int)) : inb σ a i = true := by
  simp only [inb, Bool.and_eq_true, decide_eq_true_eq]
  rw [S_len S h h1 h2]
  exact hi
end
theorem FU_s : FU = 2999 + 1 := rfl
/-- words spelled into a row of longs -/
def udL (e : Nat → Int64) (k : Nat) (v : Int64) (q : Nat) : Int64 := if q = k then v else e q
def spF (id len : Nat) : Nat → Nat → Nat → (Nat → Int64) → Nat → Int64
  | 0, _, _, row => row
  | j + 1, w, k, row => if strCh id k = 32 then spF id len j (w + 1) (k + 1) row else if w < len then spF id len j w (k + 1) (udL row w (row w * 32 + (strCh id k - 97 + 1).toInt64)) else spF id len j w (k + 1) row
theorem spell_l {id c len : Nat} (hid : id < 22) (hlen : lenS.getD id 0 < 1000) (hl : len < 1000) : ∀ (j w k fuel : Nat) (σ : St), k + j = lenS.getD id 0 → w ≤ k → j < fuel → ob σ c 15 = true → (sK σ c).2 = len →
    ∃ τ, f7_spell_p4 fuel σ id c (nI w) (nI k) = some ((), τ) ∧ (sN τ = sN σ ∧ sU τ = sU σ ∧ sK τ = sK σ ∧ sI τ = sI σ ∧ sR τ = sR σ) ∧ ∀ b q, sL τ b q = if b = c then spF id len j w k (sL σ c) q else sL σ b q := by
  intro j
  induction j with
  | zero =>
    intro w k fuel σ hk hw hf o l
    obtain ⟨g, rfl, -⟩ := suc_of hf
    refine ⟨σ, ?_, ⟨rfl, rfl, rfl, rfl, rfl⟩, fun b q => ?_⟩
    · rw [f7_spell_p4, gd_t (decide_eq_true hid), if_neg (show ¬ nI k < Int32.ofNat (lenS.getD id 0) from nI_nlt (by omega) (by omega))]
    · by_cases e : b = c
      · rw [if_pos e, e]; rfl
      · rw [if_neg e]
  | succ j ih =>
    intro w k fuel σ hk hw hf o l
    obtain ⟨g, rfl, -⟩ := suc_of hf
    have ck : chOk id (nI k) = true := by
      unfold chOk
      rw [nI_toInt (by omega), Bool.and_eq_true]
      exact ⟨decide_eq_true (by omega), decide_eq_true (by omega)⟩
    have next : ∀ σ w, f7_spell_p48 (f7_spell_p4 g) σ id c (nI w) (nI k) = f7_spell_p4 g σ id c (nI w) (nI (k + 1)) := fun σ w => by
      unfold f7_spell_p48
      rw [lt_b, nI_1]
    have head : f7_spell_p4 (g + 1) σ id c (nI w) (nI k) = if strCh id k = 32 then f7_spell_p4 g σ id c (nI (w + 1)) (nI (k + 1)) else if w < len then f7_spell_p4 g (wL σ c w (sL σ c w * 32 + (strCh id k - 97 + 1).toInt64)) id c (nI w) (nI (k + 1)) else f7_spell_p4 g σ id c (nI w) (nI (k + 1)) := by
      rw [f7_spell_p4, gd_t (decide_eq_true hid), if_pos (show nI k < Int32.ofNat (lenS.getD id 0) from nI_lt (by omega) (by omega)), gd_t (decide_eq_true hid), gd_t ck, ix_n (by omega), lt_b, nI_1, next, gd_t o, l]
      by_cases c1 : strCh id k = 32
      · rw [if_pos c1, if_pos c1]
      · rw [if_neg c1, if_neg c1]
        by_cases c2 : w < len
        · rw [if_pos c2, if_pos (show nI w < Int32.ofNat len from nI_lt c2 (by omega)), gd_t (inb_n l c2 (by omega)), gd_t (decide_eq_true hid), gd_t ck, ix_n (by omega)]
          unfold f7_withLetter
          rw [bd_s rfl, lt_b, next]
        · rw [if_neg c2, if_neg (show ¬ nI w < Int32.ofNat len from nI_nlt (by omega) (by omega)), next]
    rw [head]
    unfold spF
    by_cases c1 : strCh id k = 32
    · rw [if_pos c1]
      simp only [if_pos c1]
      exact ih (w + 1) (k + 1) g σ (by omega) (by omega) (by omega) o l
    · rw [if_neg c1]
      simp only [if_neg c1]
      by_cases c2 : w < len
      · rw [if_pos c2]
        simp only [if_pos c2]
        obtain ⟨τ, a1, a2, a3⟩ := ih w (k + 1) g (wL σ c w (sL σ c w * 32 + (strCh id k - 97 + 1).toInt64)) (by omega) (by omega) (by omega) o l
        refine ⟨τ, a1, a2, fun b q => ?_⟩
        rw [a3 b q]
        by_cases e : b = c
        · rw [if_pos e, if_pos e]
          have er : sL (wL σ c w (sL σ c w * 32 + (strCh id k - 97 + 1).toInt64)) c = udL (sL σ c) w (sL σ c w * 32 + (strCh id k - 97 + 1).toInt64) := funext fun x => by
            rw [sL_wL]
            unfold udL
            by_cases ex : x = w
            · rw [if_pos ⟨rfl, ex⟩, if_pos ex]
            · rw [if_neg (fun v => ex v.2), if_neg ex]
          rw [er]
        · rw [if_neg e, if_neg e, sL_wL, if_neg (fun v => e v.1)]
      · rw [if_neg c2]
        simp only [if_neg c2]
        exact ih w (k + 1) g σ (by omega) (by omega) (by omega) o l
def rowS (id len : Nat) : Nat → Int64 := spF id len (lenS.getD id 0) 0 0 (fun _ => 0)
theorem e_spell {n U : Nat} {ds : List (Nat × Nat)} {is : List (Nat × Nat × Int32)} {ls : List (Nat × (Nat → Int64))} {σ : St} {Q : St → Prop} {g : Unit → St → Option (Unit × St)} {c len i : Nat} (S : ST n U ds is ls σ) (h : KT c = (15, len)) (h1 : 1 ≤ c) (h2 : c ≤ n) (hl : len < 1000) (hid : i < 22 ∧ lenS.getD i 0 < 1000) (nl : ∀ q ∈ ls.map Prod.fst, q ≠ c) (kk : ∀ t, ST n U ds is ((c, rowS i len) :: ls) t → EVs (g () t) Q) : EVs (bd (f7_spell σ i c) g) Q := by
  obtain ⟨τ, a1, ⟨a2, a3, a4, a5, a6⟩, a7⟩ := spell_l (id := i) (c := c) (len := len) hid.1 hid.2 hl (lenS.getD i 0) 0 0 FU σ (by omega) (by omega) (by unfold FU; omega) (S_ob S h h1 h2) (S_len S h h1 h2)
  have a1' : f7_spell σ i c = some ((), τ) := a1
  rw [bd_s a1']
  refine kk τ ?_
  obtain ⟨⟨s1, s2⟩, s3, ⟨s4, s4'⟩, ⟨s5, s5'⟩, s6⟩ := S
  have z : ∀ {ls : List (Nat × (Nat → Int64))}, (∀ q ∈ ls.map Prod.fst, q ≠ c) → ∀ j, lkL ls c j = 0 := by
    intro ls
    induction ls with
    | nil => intro _ j; rfl
    | cons q t ih =>
      intro hq j
      unfold lkL
      rw [if_neg (fun e => hq q.1 (by rw [List.map_cons]; exact List.mem_cons_self) e.symm)]
      exact ih (fun x hx => hq x (by rw [List.map_cons]; exact List.mem_cons_of_mem _ hx)) j
  refine ⟨⟨by rw [a2]; exact s1, by rw [a3]; exact s2⟩, fun b b1 b2 => by rw [a4]; exact s3 b b1 b2, ⟨fun b j => by rw [a5]; exact s4 b j, s4'⟩, ⟨fun b j => ?_, fun q hq => ?_⟩, fun q hq => by rw [a6]; exact s6 q hq⟩
  · rw [a7 b j]
    show _ = (if b = c then rowS i len j else lkL ls b j)
    by_cases e : b = c
    · rw [if_pos e, if_pos e]
      unfold rowS
      rw [show sL σ c = fun _ => 0 from funext fun x => by rw [s5 c x]; exact z nl x]
    · rw [if_neg e, if_neg e]; exact s5 b j
  · rcases List.mem_cons.mp hq with e | hq
    · subst e; exact h2
    · exact s5' q hq
def lsC : List (Nat × (Nat → Int64)) := [(51, rowS 1 15), (50, rowS 0 10)]
