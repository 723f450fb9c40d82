/-! TEXTS OF BOTH SHORES, and which is in force -/
def gXc (δ : St) (n : Nat → Nat) : Prop := ∀ s, s < 2 → n s ≤ 12 ∧ sI δ (60 + 4 * s) 3 = nI (n s) ∧ ∀ i, i < n s → sI δ (63 + 4 * s) i = nI (12 * s + i) ∧ ∃ C R, TxC δ (sR δ 45 (12 * s + i)) C R ∧ TxOk δ (sR δ 45 (12 * s + i)) C R
def RiX (δ σ : St) (n : Nat → Nat) : Prop := ∀ s, s < 2 → sI σ 130 s = nI (n s) ∧ ∀ i, i < n s → sI σ 128 (12 * s + i) = sI δ (61 + 4 * s) i ∧ sI σ 129 (12 * s + i) = sI δ (62 + 4 * s) i ∧ ∀ C R, TxC δ (sR δ 45 (12 * s + i)) C R → TxM δ σ (sR δ 45 (12 * s + i)) C R (12 * s + i)
def ifB (δ : St) (n : Nat → Nat) (s : Nat) (d k : Int32) : Int32 := bkF (sI δ (61 + 4 * s)) (sI δ (62 + 4 * s)) d k (n s)
def txA (δ : St) (n : Nat → Nat) (s : Nat) (d k : Int32) : Nat := if ifB δ n s d k < 0 then 0 else sR δ 45 (12 * s + ix (ifB δ n s d k))
def tiF (s : Nat) (v : Int32) : Int32 := if v < 0 then -1 else nI (12 * s + ix v)
theorem lay_bk {σ : St} (L : Lay σ) {s : Nat} (hs : s < 2) : sR σ 44 s = 60 + 4 * s ∧ isBook (60 + 4 * s) ∧ bl (60 + 4 * s) = 12 := by
  have : s = 0 ∨ s = 1 := by omega
  rcases this with rfl | rfl
  · exact ⟨rL44_0 L, Or.inr (Or.inr (Or.inl rfl)), rfl⟩
  · exact ⟨rL44_1 L, Or.inr (Or.inr (Or.inr rfl)), rfl⟩
theorem ifB_or {δ : St} {n : Nat → Nat} {s : Nat} (h : n s ≤ 12) (d k : Int32) : (ifB δ n s d k = -1) ∨ ∃ i, i < n s ∧ ifB δ n s d k = nI i := by
  rcases bkF_sp (days := sI δ (61 + 4 * s)) (told := sI δ (62 + 4 * s)) (d := d) (k := k) (n s) (by omega) with ⟨h1, -⟩ | ⟨j, -, j1, j2, -, -⟩
  · exact Or.inl h1
  · exact Or.inr ⟨j, j1, j2⟩
theorem inForce_s {σ : St} (L : Lay σ) {n : Nat → Nat} (g : gXc σ n) {s : Nat} (hs : s < 2) (d k : Int32) : f4_inForce σ 35 (nI s) d k = some (txA σ n s d k, σ) := by
  obtain ⟨n12, e3, hv⟩ := g s hs
  obtain ⟨r44, ib, lb⟩ := lay_bk L hs
  have lo := latestOr_s L ib e3 (by rw [lb]; exact n12) d k (-1)
  have ob1 := (lay_book L ib).1
  unfold f4_inForce
  rw [gd_t (oL35 L), lt_b, rL35_3 L, gd_t nz_s, gd_t (oL44 L), gd_t (inb_n (lL44 L) hs (by decide)), lt_b, ix_n (by omega), r44, gd_t (nz_t (by omega)), gd_t ob1, bd_s lo]
  unfold txA
  have e61 : 60 + 4 * s + 1 = 61 + 4 * s := by omega
  have e62 : 60 + 4 * s + 2 = 62 + 4 * s := by omega
  have e63 : 60 + 4 * s + 3 = 63 + 4 * s := by omega
  have bv : ∀ v, ifB σ n s d k = v → bvF (n s) (sI σ (60 + 4 * s + 1)) (sI σ (60 + 4 * s + 2)) (sI σ (60 + 4 * s + 3)) d k (-1) = if v < 0 then -1 else sI σ (63 + 4 * s) (ix v) := fun v hv => by
    unfold bvF
    rw [e61, e62, e63, ← hv]
    rfl
  rcases ifB_or n12 (δ := σ) d k with h | ⟨i, hi, h⟩
  · rw [bv _ h, h, if_pos (show (-1 : Int32) < 0 by decide), if_pos (by decide), if_pos (by decide)]
  · obtain ⟨v1, C, R, c, -⟩ := hv i hi
    have a153 := c.1.2.1
    rw [bv _ h, h, if_neg (show ¬ nI i < 0 from nI_pos (by omega)), if_neg (show ¬ nI i < 0 from nI_pos (by omega)), ix_n (by omega), v1, if_neg (nI_pos (by omega)), lt_b, rL35_4 L, gd_t nz_s, gd_t (oL45 L), lL45 L, if_pos (show nI (12 * s + i) < Int32.ofNat 24 from nI_lt (b := 24) (by omega) (by decide)), gd_t (inb_n (lL45 L) (by omega) (by decide)), lt_b, ix_n (by omega), if_neg (by omega)]
theorem textOf_l {δ σ : St} (L : Lay σ) {n : Nat → Nat} {s : Nat} (hs : s < 2) (n12 : n s ≤ 12) (R : RiX δ σ n) (d k : Int32) : ∀ (j i fuel : Nat), i + j = n s → j < fuel →
    f12_textOf_p9 fuel σ 101 (nI s) d k (tiF s (bkF (sI δ (61 + 4 * s)) (sI δ (62 + 4 * s)) d k i)) (nI (12 * s + i)) = some (tiF s (ifB δ n s d k), σ) := by
  obtain ⟨m1, m2⟩ := R s hs
  have e12 : (12 : Int32) * nI s + nI (n s) = nI (12 * s + n s) := by
    have : (12 : Int32) * nI s = nI (12 * s) := pk_mul 12 s
    rw [this, nI_add]
  intro j
  induction j with
  | zero =>
    intro i fuel hi hf
    obtain ⟨f, rfl, -⟩ := suc_of hf
    have : i = n s := by omega
    subst this
    rw [f12_textOf_p9, gd_t (oL101 L), lt_b, rL101_33 L, gd_t nz_s, gd_t (oL130 L), gd_t (inb_n (lL130 L) hs (by decide)), ix_n (by omega), m1, e12, if_neg (nI_nlt (by omega) (by omega))]
    rfl
  | succ j ih =>
    intro i fuel hi hf
    obtain ⟨f, rfl, hf2⟩ := suc_of hf
    obtain ⟨x1, x2, -⟩ := m2 i (by omega)
    have st : ∀ v, v = tiF s (bkF (sI δ (61 + 4 * s)) (sI δ (62 + 4 * s)) d k (i + 1)) → f12_textOf_p77 (f12_textOf_p9 f) σ 101 (nI s) d k v (nI (12 * s + i)) = some (tiF s (ifB δ n s d k), σ) := fun v hv => by
      unfold f12_textOf_p77
      rw [lt_b, nI_1, hv]
      exact ih (i + 1) f (by omega) (by omega)
    have e : bkF (sI δ (61 + 4 * s)) (sI δ (62 + 4 * s)) d k (i + 1) = if sI δ (62 + 4 * s) i ≤ k ∧ sI δ (61 + 4 * s) i ≤ d ∧ (bkF (sI δ (61 + 4 * s)) (sI δ (62 + 4 * s)) d k i < 0 ∨ ¬ sI δ (61 + 4 * s) i < sI δ (61 + 4 * s) (ix (bkF (sI δ (61 + 4 * s)) (sI δ (62 + 4 * s)) d k i))) then nI i else bkF (sI δ (61 + 4 * s)) (sI δ (62 + 4 * s)) d k i := rfl
    have ti : tiF s (nI i) = nI (12 * s + i) := by unfold tiF; rw [if_neg (nI_pos (by omega)), ix_n (by omega)]
    have st2 : nI i = bkF (sI δ (61 + 4 * s)) (sI δ (62 + 4 * s)) d k (i + 1) → f12_textOf_p73 (f12_textOf_p9 f) σ 101 (nI s) d k (nI (12 * s + i)) = some (tiF s (ifB δ n s d k), σ) := fun hv => by
      unfold f12_textOf_p73
      exact st _ (by rw [← hv, ti])
    rw [f12_textOf_p9, gd_t (oL101 L), lt_b, rL101_33 L, gd_t nz_s, gd_t (oL130 L), gd_t (inb_n (lL130 L) hs (by decide)), ix_n (k := s) (by omega), m1, e12, if_pos (nI_lt (by omega) (by omega)), lt_b, rL101_32 L, gd_t nz_s, gd_t (oL129 L), gd_t (inb_n (lL129 L) (by omega) (by decide)), ix_n (k := 12 * s + i) (by omega), x2]
    by_cases c1 : sI δ (62 + 4 * s) i ≤ k
    · rw [if_pos c1, lt_b, rL101_31 L, gd_t nz_s, gd_t (oL128 L), gd_t (inb_n (lL128 L) (by omega) (by decide)), x1]
      by_cases c2 : sI δ (61 + 4 * s) i ≤ d
      · rw [if_pos c2]
        rcases bkF_sp (days := sI δ (61 + 4 * s)) (told := sI δ (62 + 4 * s)) (d := d) (k := k) i (by omega) with ⟨h1, -⟩ | ⟨q, -, q1, q2, -, -⟩
        · rw [h1, if_pos (show tiF s (-1) = -1 from rfl)]
          exact st2 (by rw [e, if_pos ⟨c1, c2, Or.inl (by rw [h1]; decide)⟩])
        · have tq : tiF s (nI q) = nI (12 * s + q) := by unfold tiF; rw [if_neg (nI_pos (by omega)), ix_n (by omega)]
          rw [q2, tq, if_neg (nI_m1 (by omega)), gd_t (inb_n (lL128 L) (by omega) (by decide)), ix_n (k := 12 * s + q) (by omega), (m2 q (by omega)).1]
          by_cases c3 : sI δ (61 + 4 * s) i < sI δ (61 + 4 * s) q
          · rw [if_pos c3]
            exact st _ (by rw [e, if_neg (fun w => by rcases w.2.2 with w | w; (rw [q2] at w; exact nI_pos (by omega) w); (rw [q2, ix_n (by omega)] at w; exact w c3)), q2, tq])
          · rw [if_neg c3]
            exact st2 (by rw [e, if_pos ⟨c1, c2, Or.inr (by rw [q2, ix_n (by omega)]; exact c3)⟩])
      · rw [if_neg c2]
        exact st _ (by rw [e, if_neg (fun w => c2 w.2.1)])
    · rw [if_neg c1]
      exact st _ (by rw [e, if_neg (fun w => c1 w.1)])
theorem textOf_s {δ σ : St} (L : Lay σ) {n : Nat → Nat} {s : Nat} (hs : s < 2) (n12 : n s ≤ 12) (R : RiX δ σ n) (d k : Int32) : f12_textOf σ 101 (nI s) d k = some (tiF s (ifB δ n s d k), σ) := by
  unfold f12_textOf
  have e12 : (12 : Int32) * nI s = nI (12 * s + 0) := pk_mul 12 s
  rw [lt_b, e12]
  exact textOf_l L hs n12 R d k (n s) 0 FU (by omega) (by unfold FU; omega)
