/-! BOOKS: which line was told last of the latest day -/
def bkF (days told : Nat → Int32) (d k : Int32) : Nat → Int32
  | 0 => -1
  | n + 1 => if told n ≤ k ∧ days n ≤ d ∧ (bkF days told d k n < 0 ∨ ¬ days n < days (ix (bkF days told d k n))) then nI n else bkF days told d k n
/-- r is that line among lo .. n-1; -1 without one -/
def Bk (days told : Nat → Int32) (d k : Int32) (lo n : Nat) (r : Int32) : Prop :=
  (r = -1 ∧ ∀ i, lo ≤ i → i < n → ¬ (told i ≤ k ∧ days i ≤ d)) ∨ ∃ j, lo ≤ j ∧ j < n ∧ r = nI j ∧ (told j ≤ k ∧ days j ≤ d) ∧ ∀ i, lo ≤ i → i < n → (told i ≤ k ∧ days i ≤ d) → days i ≤ days j ∧ (j < i → days i < days j)
theorem i_le_of {a b : Int32} (h : ¬ b < a) : a ≤ b := Int32.not_lt.mp h
theorem i_le_tr {a b c : Int32} (h : a ≤ b) (g : b ≤ c) : a ≤ c := by rw [t_le] at *; omega
theorem i_lt_le {a b : Int32} (h : a < b) : a ≤ b := by rw [t_le]; rw [t_lt] at h; omega
theorem bkF_sp {days told : Nat → Int32} {d k : Int32} : ∀ n, n < 2147483648 → Bk days told d k 0 n (bkF days told d k n) := by
  intro n
  induction n with
  | zero => intro _; exact Or.inl ⟨rfl, fun i _ h => absurd h (by omega)⟩
  | succ n ih =>
    intro hn
    unfold bkF
    rcases ih (by omega) with ⟨h1, h2⟩ | ⟨j, -, j1, j2, j3, j4⟩
    · rw [h1]
      by_cases c : told n ≤ k ∧ days n ≤ d
      · rw [if_pos ⟨c.1, c.2, Or.inl (by decide)⟩]
        refine Or.inr ⟨n, by omega, by omega, rfl, c, fun i _ hi hc => ?_⟩
        by_cases e : i = n
        · subst e; exact ⟨Int32.le_refl _, fun h => absurd h (by omega)⟩
        · exact absurd hc (h2 i (by omega) (by omega))
      · rw [if_neg (fun q => c ⟨q.1, q.2.1⟩)]
        refine Or.inl ⟨rfl, fun i _ hi hc => ?_⟩
        by_cases e : i = n
        · subst e; exact c hc
        · exact h2 i (by omega) (by omega) hc
    · rw [j2, ix_n (by omega)]
      have jn : ¬ nI j < 0 := nI_pos (by omega)
      by_cases c : (told n ≤ k ∧ days n ≤ d) ∧ ¬ days n < days j
      · rw [if_pos ⟨c.1.1, c.1.2, Or.inr c.2⟩]
        refine Or.inr ⟨n, by omega, by omega, rfl, c.1, fun i _ hi hc => ?_⟩
        by_cases e : i = n
        · subst e; exact ⟨Int32.le_refl _, fun h => absurd h (by omega)⟩
        · exact ⟨i_le_tr (j4 i (by omega) (by omega) hc).1 (i_le_of c.2), fun h => absurd h (by omega)⟩
      · rw [if_neg (fun q => by rcases q.2.2 with q2 | q2; exact jn q2; exact c ⟨⟨q.1, q.2.1⟩, q2⟩)]
        refine Or.inr ⟨j, by omega, by omega, rfl, j3, fun i _ hi hc => ?_⟩
        by_cases e : i = n
        · subst e
          have c2 : days i < days j := Decidable.not_not.mp (fun q => c ⟨hc, q⟩)
          exact ⟨i_lt_le c2, fun _ => c2⟩
        · exact j4 i (by omega) (by omega) hc
theorem Bk_uq {days told : Nat → Int32} {d k : Int32} {lo n : Nat} {r s : Int32} (h : Bk days told d k lo n r) (g : Bk days told d k lo n s) : r = s := by
  rcases h with ⟨h1, h2⟩ | ⟨j, j0, j1, j2, j3, j4⟩
  · rcases g with ⟨g1, -⟩ | ⟨i, i0, i1, -, i3, -⟩
    · rw [h1, g1]
    · exact absurd i3 (h2 i i0 i1)
  · rcases g with ⟨-, g2⟩ | ⟨i, i0, i1, i2, i3, i4⟩
    · exact absurd j3 (g2 j j0 j1)
    · have a := j4 i i0 i1 i3
      have b := i4 j j0 j1 j3
      have : i = j := by
        rcases Nat.lt_trichotomy i j with q | q | q
        · have := b.2 q; have := a.1; rw [t_lt] at *; rw [t_le] at *; omega
        · exact q
        · have := a.2 q; have := b.1; rw [t_lt] at *; rw [t_le] at *; omega
      rw [j2, i2, this]
theorem Bk_cg {days told days2 told2 : Nat → Int32} {d k : Int32} {lo n : Nat} {r : Int32} (h : Bk days told d k lo n r) (e1 : ∀ i, i < n → days i = days2 i) (e2 : ∀ i, i < n → told i = told2 i) : Bk days2 told2 d k lo n r := by
  rcases h with ⟨h1, h2⟩ | ⟨j, j0, j1, j2, j3, j4⟩
  · exact Or.inl ⟨h1, fun i a b c => h2 i a b (by rw [e1 i b, e2 i b]; exact c)⟩
  · refine Or.inr ⟨j, j0, j1, j2, by rw [← e1 j j1, ← e2 j j1]; exact j3, fun i a b c => ?_⟩
    rw [← e1 i b, ← e2 i b] at c
    rw [← e1 i b, ← e1 j j1]
    exact j4 i a b c
/-- one line more at the low end, the way the reference goes -/
theorem Bk_dn {days told : Nat → Int32} {d k : Int32} {i n : Nat} {r : Int32} (hi : i < n) (hn : n < 2147483648) (h : Bk days told d k (i + 1) n r) :
    Bk days told d k i n (if (told i ≤ k ∧ days i ≤ d) ∧ (r = -1 ∨ ¬ days i ≤ days (ix r)) then nI i else r) := by
  rcases h with ⟨h1, h2⟩ | ⟨j, j0, j1, j2, j3, j4⟩
  · by_cases c : told i ≤ k ∧ days i ≤ d
    · rw [if_pos ⟨c, Or.inl h1⟩]
      refine Or.inr ⟨i, by omega, hi, rfl, c, fun q q1 q2 q3 => ?_⟩
      by_cases e : q = i
      · subst e; exact ⟨Int32.le_refl _, fun h => absurd h (by omega)⟩
      · exact absurd q3 (h2 q (by omega) q2)
    · rw [if_neg (fun q => c q.1)]
      refine Or.inl ⟨h1, fun q q1 q2 q3 => ?_⟩
      by_cases e : q = i
      · subst e; exact c q3
      · exact h2 q (by omega) q2 q3
  · have jn : nI j ≠ -1 := nI_m1 (by omega)
    rw [j2, ix_n (by omega)]
    by_cases c : (told i ≤ k ∧ days i ≤ d) ∧ ¬ days i ≤ days j
    · rw [if_pos ⟨c.1, Or.inr c.2⟩]
      have lt : days j < days i := Int32.not_le.mp c.2
      refine Or.inr ⟨i, by omega, hi, rfl, c.1, fun q q1 q2 q3 => ?_⟩
      by_cases e : q = i
      · subst e; exact ⟨Int32.le_refl _, fun h => absurd h (by omega)⟩
      · have w := (j4 q (by omega) q2 q3).1
        have w2 : days q < days i := by rw [t_lt] at *; rw [t_le] at w; omega
        exact ⟨i_lt_le w2, fun _ => w2⟩
    · rw [if_neg (fun q => by rcases q.2 with q2 | q2; exact jn q2; exact c ⟨q.1, q2⟩)]
      refine Or.inr ⟨j, by omega, j1, rfl, j3, fun q q1 q2 q3 => ?_⟩
      by_cases e : q = i
      · subst e
        exact ⟨Decidable.not_not.mp (fun w => c ⟨q3, w⟩), fun h => absurd h (by omega)⟩
      · exact j4 q (by omega) q2 q3
def isBook (B : Nat) : Prop := B = 36 ∨ B = 40 ∨ B = 60 ∨ B = 64
def bl (B : Nat) : Nat := if B < 50 then 200 else 12
theorem lay_book {σ : St} (L : Lay σ) {B : Nat} (h : isBook B) : ob σ B 1 = true ∧ (sR σ B 0 = B + 1 ∧ sR σ B 1 = B + 2 ∧ sR σ B 2 = B + 3) ∧ (ob σ (B + 1) 14 = true ∧ ob σ (B + 2) 14 = true ∧ ob σ (B + 3) 14 = true) ∧ (sK σ (B + 1)).2 = bl B ∧ (sK σ (B + 2)).2 = bl B ∧ (sK σ (B + 3)).2 = bl B := by
  rcases h with rfl | rfl | rfl | rfl
  · exact ⟨oL36 L, ⟨rL36_0 L, rL36_1 L, rL36_2 L⟩, ⟨oL37 L, oL38 L, oL39 L⟩, lL37 L, lL38 L, lL39 L⟩
  · exact ⟨oL40 L, ⟨rL40_0 L, rL40_1 L, rL40_2 L⟩, ⟨oL41 L, oL42 L, oL43 L⟩, lL41 L, lL42 L, lL43 L⟩
  · exact ⟨oL60 L, ⟨rL60_0 L, rL60_1 L, rL60_2 L⟩, ⟨oL61 L, oL62 L, oL63 L⟩, lL61 L, lL62 L, lL63 L⟩
  · exact ⟨oL64 L, ⟨rL64_0 L, rL64_1 L, rL64_2 L⟩, ⟨oL65 L, oL66 L, oL67 L⟩, lL65 L, lL66 L, lL67 L⟩
theorem bl_le {B : Nat} (h : isBook B) : bl B ≤ 200 ∧ B ≤ 64 ∧ 36 ≤ B ∧ bl B < 2147483648 := by
  rcases h with rfl | rfl | rfl | rfl <;> decide
theorem tell_s {σ : St} (L : Lay σ) {B n : Nat} (h : isBook B) (hn : sI σ B 3 = nI n) (hl : n ≤ bl B) (day val now : Int32) : f1_tell σ B day val now = if n < bl B then some (1, wI (wI (wI (wI σ (B + 1) n day) (B + 2) n now) (B + 3) n val) B 3 (nI (n + 1))) else some (0, σ) := by
  obtain ⟨o, ⟨r0, r1, r2⟩, ⟨o1, o2, o3⟩, l1, l2, l3⟩ := lay_book L h
  have hb := bl_le h
  unfold f1_tell
  rw [gd_t o, lt_b, r0, gd_t (nz_t (by omega)), gd_t o1, l1, hn]
  by_cases c : n < bl B
  · rw [if_pos c, if_pos (show nI n < Int32.ofNat (bl B) from nI_lt c (by omega)), gd_t (inb_n l1 c (by omega)), lt_b, ix_n (by omega), lt_b, sR_wI, r1, gd_t (nz_t (by omega)), gd_t (show ob (wI σ (B + 1) n day) (B + 2) 14 = true from o2), sI_wo (b := B) (by omega), hn, gd_t (inb_n (σ := wI σ (B + 1) n day) l2 c (by omega)), lt_b, lt_b, ix_n (by omega), sR_wI, sR_wI, r2, gd_t (nz_t (by omega)), gd_t (show ob (wI (wI σ (B + 1) n day) (B + 2) n now) (B + 3) 14 = true from o3), sI_wo (b := B) (by omega), sI_wo (b := B) (by omega), hn, gd_t (inb_n (σ := wI (wI σ (B + 1) n day) (B + 2) n now) l3 c (by omega)), lt_b, ix_n (by omega), lt_b, sI_wo (b := B) (by omega), sI_wo (b := B) (by omega), sI_wo (b := B) (by omega), hn, nI_1]
  · rw [if_neg c, if_neg (show ¬ nI n < Int32.ofNat (bl B) from nI_nlt (by omega) (by omega))]
theorem latest_l {σ : St} (L : Lay σ) {B n : Nat} (h : isBook B) (hn : sI σ B 3 = nI n) (hl : n ≤ bl B) (d k : Int32) : ∀ (j i fuel : Nat), i + j = n → j < fuel →
    f1_latest_p5 fuel σ B d k (bkF (sI σ (B + 1)) (sI σ (B + 2)) d k i) (nI i) = some (bkF (sI σ (B + 1)) (sI σ (B + 2)) d k n, σ) := by
  obtain ⟨o, ⟨r0, r1, r2⟩, ⟨o1, o2, o3⟩, l1, l2, l3⟩ := lay_book L h
  have hb := bl_le h
  intro j
  induction j with
  | zero =>
    intro i fuel hi hf
    obtain ⟨f, rfl, -⟩ := suc_of hf
    have : i = n := by omega
    subst this
    rw [f1_latest_p5, gd_t o, hn, if_neg (nI_nlt (by omega) (by omega))]
  | succ j ih =>
    intro i fuel hi hf
    obtain ⟨f, rfl, hf2⟩ := suc_of hf
    have st : ∀ v, v = bkF (sI σ (B + 1)) (sI σ (B + 2)) d k (i + 1) → f1_latest_p59 (f1_latest_p5 f) σ B d k v (nI i) = some (bkF (sI σ (B + 1)) (sI σ (B + 2)) d k n, σ) := fun v hv => by
      unfold f1_latest_p59
      rw [lt_b, nI_1, hv]
      exact ih (i + 1) f (by omega) (by omega)
    have st2 : nI i = bkF (sI σ (B + 1)) (sI σ (B + 2)) d k (i + 1) → f1_latest_p56 (f1_latest_p5 f) σ B d k (nI i) = some (bkF (sI σ (B + 1)) (sI σ (B + 2)) d k n, σ) := fun hv => by
      unfold f1_latest_p56
      exact st _ hv
    rw [f1_latest_p5, gd_t o, hn, if_pos (nI_lt (by omega) (by omega)), lt_b, r1, gd_t (nz_t (by omega)), gd_t o2, gd_t (inb_n l2 (by omega) (by omega)), ix_n (by omega)]
    have e : bkF (sI σ (B + 1)) (sI σ (B + 2)) d k (i + 1) = if sI σ (B + 2) i ≤ k ∧ sI σ (B + 1) i ≤ d ∧ (bkF (sI σ (B + 1)) (sI σ (B + 2)) d k i < 0 ∨ ¬ sI σ (B + 1) i < sI σ (B + 1) (ix (bkF (sI σ (B + 1)) (sI σ (B + 2)) d k i))) then nI i else bkF (sI σ (B + 1)) (sI σ (B + 2)) d k i := rfl
    by_cases c1 : sI σ (B + 2) i ≤ k
    · rw [if_pos c1, lt_b, r0, gd_t (nz_t (by omega)), gd_t o1, gd_t (inb_n l1 (by omega) (by omega))]
      by_cases c2 : sI σ (B + 1) i ≤ d
      · rw [if_pos c2]
        rcases bkF_sp (days := sI σ (B + 1)) (told := sI σ (B + 2)) (d := d) (k := k) i (by omega) with ⟨h1, -⟩ | ⟨q, -, q1, q2, -, -⟩
        · rw [h1, if_pos (by decide)]
          exact st2 (by rw [e, if_pos ⟨c1, c2, Or.inl (by rw [h1]; decide)⟩])
        · have qn : ¬ bkF (sI σ (B + 1)) (sI σ (B + 2)) d k i < 0 := by rw [q2]; exact nI_pos (by omega)
          rw [if_neg qn]
          by_cases c3 : sI σ (B + 1) i < sI σ (B + 1) q
          · have e2 : bkF (sI σ (B + 1)) (sI σ (B + 2)) d k i = bkF (sI σ (B + 1)) (sI σ (B + 2)) d k (i + 1) := by
              rw [e, if_neg (fun w => by rcases w.2.2 with w | w; exact qn w; rw [q2, ix_n (by omega)] at w; exact w c3)]
            rw [gd_t (by rw [q2]; exact inb_n l1 (by omega) (by omega)), if_pos (by rw [q2, ix_n (by omega)]; exact c3)]
            exact st _ e2
          · rw [gd_t (by rw [q2]; exact inb_n l1 (by omega) (by omega)), if_neg (by rw [q2, ix_n (by omega)]; exact c3)]
            exact st2 (by rw [e, if_pos ⟨c1, c2, Or.inr (by rw [q2, ix_n (by omega)]; exact c3)⟩])
      · rw [if_neg c2]
        exact st _ (by rw [e, if_neg (fun w => c2 w.2.1)])
    · rw [if_neg c1]
      exact st _ (by rw [e, if_neg (fun w => c1 w.1)])
theorem latest_s {σ : St} (L : Lay σ) {B n : Nat} (h : isBook B) (hn : sI σ B 3 = nI n) (hl : n ≤ bl B) (d k : Int32) : f1_latest σ B d k = some (bkF (sI σ (B + 1)) (sI σ (B + 2)) d k n, σ) := by
  have hb := bl_le h
  exact latest_l L h hn hl d k n 0 FU (by omega) (by unfold FU; omega)
/-- the value of that line; v without one -/
def bvF (n : Nat) (days told vals : Nat → Int32) (d k v : Int32) : Int32 := if bkF days told d k n < 0 then v else vals (ix (bkF days told d k n))
def beF (n : Nat) (days told vals : Nat → Int32) (d k v : Int32) : Int32 := if bkF days told d k n < 0 then v else if days (ix (bkF days told d k n)) = d then vals (ix (bkF days told d k n)) else v
theorem latestOr_s {σ : St} (L : Lay σ) {B n : Nat} (h : isBook B) (hn : sI σ B 3 = nI n) (hl : n ≤ bl B) (d k v : Int32) : f1_latestOr σ B d k v = some (bvF n (sI σ (B + 1)) (sI σ (B + 2)) (sI σ (B + 3)) d k v, σ) := by
  obtain ⟨o, ⟨r0, r1, r2⟩, ⟨o1, o2, o3⟩, l1, l2, l3⟩ := lay_book L h
  have hb := bl_le h
  unfold f1_latestOr bvF
  rw [gd_t o, bd_s (latest_s L h hn hl d k)]
  rcases bkF_sp (days := sI σ (B + 1)) (told := sI σ (B + 2)) (d := d) (k := k) n (by omega) with ⟨h1, -⟩ | ⟨q, -, q1, q2, -, -⟩
  · rw [h1, if_pos (by decide), if_pos (by decide)]
  · rw [q2, if_neg (nI_pos (by omega)), if_neg (nI_pos (by omega)), lt_b, r2, gd_t (nz_t (by omega)), gd_t o3, gd_t (inb_n l3 (by omega) (by omega))]
theorem exactOr_s {σ : St} (L : Lay σ) {B n : Nat} (h : isBook B) (hn : sI σ B 3 = nI n) (hl : n ≤ bl B) (d k v : Int32) : f1_exactOr σ B d k v = some (beF n (sI σ (B + 1)) (sI σ (B + 2)) (sI σ (B + 3)) d k v, σ) := by
  obtain ⟨o, ⟨r0, r1, r2⟩, ⟨o1, o2, o3⟩, l1, l2, l3⟩ := lay_book L h
  have hb := bl_le h
  unfold f1_exactOr beF
  rw [gd_t o, bd_s (latest_s L h hn hl d k)]
  rcases bkF_sp (days := sI σ (B + 1)) (told := sI σ (B + 2)) (d := d) (k := k) n (by omega) with ⟨h1, -⟩ | ⟨q, -, q1, q2, -, -⟩
  · rw [h1, if_pos (by decide), if_pos (by decide)]
  · rw [q2, if_neg (nI_pos (by omega)), if_neg (nI_pos (by omega)), lt_b, r0, gd_t (nz_t (by omega)), gd_t o1, gd_t (inb_n l1 (by omega) (by omega))]
    by_cases c : sI σ (B + 1) (ix (nI q)) = d
    · rw [if_pos c, if_pos c, lt_b, r2, gd_t (nz_t (by omega)), gd_t o3, gd_t (inb_n l3 (by omega) (by omega))]
    · rw [if_neg c, if_neg c]
