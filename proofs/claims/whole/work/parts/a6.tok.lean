/-! WHAT A TOKEN IS, to both -/
theorem kwS_sp {w : Int64} : ∀ j i, (kwS w j i = -4 ∧ ∀ q, i ≤ q → q < i + j → kwI q ≠ w) ∨ ∃ q, i ≤ q ∧ q < i + j ∧ kwS w j i = nI (256 + q) ∧ kwI q = w := by
  intro j
  induction j with
  | zero => intro i; exact Or.inl ⟨rfl, fun q h1 h2 => by omega⟩
  | succ j ih =>
    intro i
    unfold kwS
    by_cases h : kwI i = w
    · rw [if_pos h]; exact Or.inr ⟨i, by omega, by omega, rfl, h⟩
    · rw [if_neg h]
      rcases ih (i + 1) with ⟨h1, h2⟩ | ⟨q, h1, h2, h3, h4⟩
      · refine Or.inl ⟨h1, fun q q1 q2 => ?_⟩
        by_cases e : q = i
        · rw [e]; exact h
        · exact h2 q (by omega) (by omega)
      · exact Or.inr ⟨q, by omega, by omega, h3, h4⟩
theorem kw_inj : ∀ q, q < 10 → ∀ r, r < 10 → kwL.getD q 0 = kwL.getD r 0 → q = r := by decide
theorem kw_b : ∀ q, q < 10 → kwL.getD q 0 < 2 ^ 62 := by decide
theorem kwS_is {n q : Nat} (hq : q < 10) (hn : n < 2 ^ 63) : kwS (lN n) 10 0 = nI (256 + q) ↔ n = kwL.getD q 0 := by
  have bq := kw_b q hq
  constructor
  · intro h
    rcases kwS_sp (w := lN n) 10 0 with ⟨h1, -⟩ | ⟨r, r1, r2, r3, r4⟩
    · rw [h1] at h
      have := nI_pos' (n := 256 + q) (by omega)
      rw [← h] at this
      exact absurd this (by decide)
    · rw [r3] at h
      have := (nI_eq (by omega) (by omega)).mp h
      have e : r = q := by omega
      have br := kw_b r (by omega)
      have := lN_inj (a := kwL.getD r 0) (b := n) (by omega) hn r4
      rw [← this, e]
  · intro h
    rcases kwS_sp (w := lN n) 10 0 with ⟨-, h2⟩ | ⟨r, r1, r2, r3, r4⟩
    · exact absurd (by unfold kwI; rw [h]) (h2 q (by omega) (by omega))
    · have br := kw_b r (by omega)
      have e := lN_inj (a := kwL.getD r 0) (b := n) (by omega) hn r4
      rw [h] at e
      rw [r3, kw_inj r (by omega) q hq e]
theorem kwS_no {n : Nat} (hn : n < 2 ^ 63) : kwS (lN n) 10 0 = -4 ↔ ∀ q, q < 10 → n ≠ kwL.getD q 0 := by
  constructor
  · intro h q hq e
    have := (kwS_is hq hn).mpr e
    rw [h] at this
    have h2 := nI_pos' (n := 256 + q) (by omega)
    rw [← this] at h2
    exact absurd h2 (by decide)
  · intro h
    rcases kwS_sp (w := lN n) 10 0 with ⟨h1, -⟩ | ⟨r, r1, r2, r3, r4⟩
    · exact h1
    · have br := kw_b r (by omega)
      exact absurd (lN_inj (a := kwL.getD r 0) (b := n) (by omega) hn r4).symm (h r (by omega))
/-- the letters of the word at p -/
theorem wrd_at {t : Nat → Int32} {s p : Nat} (B : Byt t s) (hp : p ≤ s) : Wrd t p (rnT ltB t s p - p) := by
  intro q hq
  have r := rnT_sp (p := ltB) (t := t) hp
  have l := r.2.2.1 (p + q) (by omega) (by omega)
  obtain ⟨c, hc, e⟩ := B (p + q) (by omega)
  rw [e] at l
  have := lt_byte l (by omega)
  exact ⟨c, this.1, this.2, e⟩
/-- the number of a word: where there is one -/
def wnF (t : Nat → Int32) (s p : Nat) : Nat := pwF t p (teF t s p - p)
theorem tok_3 {t : Nat → Int32} {s p : Nat} (B : Byt t s) : soF t s p = 3 → p < s ∧ ltB (t p) = true ∧ teF t s p = rnT ltB t s p ∧ teF t s p - p ≤ 8 ∧ Wrd t p (teF t s p - p) ∧ tkF t s p = kwS (lN (wnF t s p)) 10 0 ∧ tvF t s p = lN (wnF t s p) ∧ wnF t s p < 2 ^ 63 := by
  unfold soF
  by_cases c : p < s
  · rw [if_pos c]
    by_cases c1 : ltB (t p) = true
    · rw [if_pos c1]
      have te : teF t s p = rnT ltB t s p := by unfold teF; rw [if_pos c, if_pos c1]
      by_cases c2 : rnT ltB t s p - p ≤ 8
      · intro _
        have w := wrd_at B (show p ≤ s by omega)
        refine ⟨c, c1, te, by rw [te]; exact c2, by rw [te]; exact w, ?_, ?_, ?_⟩
        · unfold tkF wnF; rw [if_pos c, if_pos c1, if_pos c2, te]
        · unfold tvF wnF; rw [if_pos c, if_pos c1, te]
        · unfold wnF; rw [te]; exact pw_8 w c2
      · rw [if_neg c2]; intro h; exact absurd h (by decide)
    · rw [if_neg c1]
      by_cases c2 : fgB (t p) = true
      · rw [if_pos c2]
        by_cases c3 : rnT fgB t s p - p ≤ 4
        · rw [if_pos c3]; intro h; exact absurd h (by decide)
        · rw [if_neg c3]; intro h; exact absurd h (by decide)
      · rw [if_neg c2]; intro h; exact absurd h (by decide)
  · rw [if_neg c]; intro h; exact absurd h (by decide)
/-- all kinds of tokens -/
theorem tok_or {t : Nat → Int32} {s p : Nat} (B : Byt t s) : (soF t s p = 0 ∧ tkF t s p = -1 ∧ s ≤ p) ∨ (soF t s p = 1 ∧ tkF t s p = -2) ∨ (soF t s p = 2 ∧ tkF t s p = -3 ∧ tvF t s p = lN (nmF t p (teF t s p - p)) ∧ nmF t p (teF t s p - p) < 10000) ∨ (soF t s p = 3 ∧ (tkF t s p = -4 ∨ ∃ q, q < 10 ∧ tkF t s p = nI (256 + q))) ∨ (soF t s p = 4 ∧ tkF t s p = t p ∧ p < s ∧ ¬ ltB (t p) = true ∧ ¬ fgB (t p) = true) := by
  by_cases c : p < s
  · by_cases c1 : ltB (t p) = true
    · by_cases c2 : rnT ltB t s p - p ≤ 8
      · have so : soF t s p = 3 := by unfold soF; rw [if_pos c, if_pos c1, if_pos c2]
        have tk := (tok_3 B so).2.2.2.2.2.1
        refine Or.inr (Or.inr (Or.inr (Or.inl ⟨so, ?_⟩)))
        rw [tk]
        rcases kwS_sp (w := lN (wnF t s p)) 10 0 with ⟨h1, -⟩ | ⟨r, r1, r2, r3, -⟩
        · exact Or.inl h1
        · exact Or.inr ⟨r, by omega, r3⟩
      · refine Or.inr (Or.inl ⟨?_, ?_⟩)
        · unfold soF; rw [if_pos c, if_pos c1, if_neg c2]
        · unfold tkF; rw [if_pos c, if_pos c1, if_neg c2]
    · by_cases c2 : fgB (t p) = true
      · by_cases c3 : rnT fgB t s p - p ≤ 4
        · have te : teF t s p = rnT fgB t s p := by unfold teF; rw [if_pos c, if_neg c1, if_pos c2]
          refine Or.inr (Or.inr (Or.inl ⟨?_, ?_, ?_, ?_⟩))
          · unfold soF; rw [if_pos c, if_neg c1, if_pos c2, if_pos c3]
          · unfold tkF; rw [if_pos c, if_neg c1, if_pos c2, if_pos c3]
          · unfold tvF; rw [if_pos c, if_neg c1, if_pos c2, te]
          · rw [te]
            have r := rnT_sp (p := fgB) (t := t) (show p ≤ s by omega)
            have b := nmF_b (t := t) (p := p) (rnT fgB t s p - p) (fun q hq => by
              have l := r.2.2.1 (p + q) (by omega) (by omega)
              obtain ⟨x, hx, e⟩ := B (p + q) (by omega)
              rw [e] at l ⊢
              rw [ix_n (by omega)]
              exact fg_byte l (by omega))
            have : 10 ^ (rnT fgB t s p - p) ≤ 10 ^ 4 := Nat.pow_le_pow_right (by decide) c3
            omega
        · refine Or.inr (Or.inl ⟨?_, ?_⟩)
          · unfold soF; rw [if_pos c, if_neg c1, if_pos c2, if_neg c3]
          · unfold tkF; rw [if_pos c, if_neg c1, if_pos c2, if_neg c3]
      · refine Or.inr (Or.inr (Or.inr (Or.inr ⟨?_, ?_, c, c1, c2⟩)))
        · unfold soF; rw [if_pos c, if_neg c1, if_neg c2]
        · unfold tkF; rw [if_pos c, if_neg c1, if_neg c2]
  · refine Or.inl ⟨?_, ?_, by omega⟩
    · unfold soF; rw [if_neg c]
    · unfold tkF; rw [if_neg c]
theorem n256 {q d : Nat} (hd : d < 256) (hq : q < 10) : ¬ nI (256 + q) = nI d := fun h => by have := (nI_eq (by omega) (by omega)).mp h; omega
theorem nneg {d : Nat} (hd : d < 2147483648) {x : Int32} (hx : x < 0) : ¬ x = nI d := fun h => by rw [h] at hx; exact nI_pos (by omega) hx
theorem isSign_s {t : Nat → Int32} {s p d : Nat} {ρ : St} (B : Byt t s) (L : Lay ρ) (K : Tkm t s p ρ) (hd : d < 128) : f12_isSign ρ 101 (nI d) = some (if tkF t s p = nI d then 1 else 0, ρ) := by
  unfold f12_isSign
  rw [gd_t (oL101 L), K.2.2.1]
  rcases tok_or (p := p) B with ⟨a, b, -⟩ | ⟨a, b⟩ | ⟨a, b, -⟩ | ⟨a, b⟩ | ⟨a, b, c, -⟩
  · rw [a, b, if_neg (by decide), if_neg (nneg (by omega) (by decide))]
  · rw [a, b, if_neg (by decide), if_neg (nneg (by omega) (by decide))]
  · rw [a, b, if_neg (by decide), if_neg (nneg (by omega) (by decide))]
  · rw [a, if_neg (by decide)]
    rcases b with b | ⟨q, hq, b⟩
    · rw [b, if_neg (nneg (by omega) (by decide))]
    · rw [b, if_neg (n256 (by omega) hq)]
  · obtain ⟨x, hx, e⟩ := B p c
    rw [a, b, if_pos rfl, K.2.2.2.2 a, e]
    have := sb_eq (c := x) (d := d) hx hd
    by_cases h : nI x = nI d
    · rw [if_pos (this.mpr h), if_pos h]
    · rw [if_neg (fun w => h (this.mp w)), if_neg h]
/-! the words of the reference -/
def pwS (id : Nat) : Nat := pwF (strCh id) 0 (lenS.getD id 0)
theorem strOk : ∀ id, id < 22 → 3 ≤ id → (lenS.getD id 0 ≤ 8 ∧ ∀ j, j < lenS.getD id 0 → 97 ≤ ix (strCh id j) ∧ ix (strCh id j) ≤ 122 ∧ strCh id j = nI (ix (strCh id j))) := by decide +kernel
theorem strW {id : Nat} (h : id < 22) (h3 : 3 ≤ id) : Wrd (strCh id) 0 (lenS.getD id 0) := fun q hq => by
  have := (strOk id h h3).2 q hq
  exact ⟨_, this.1, this.2.1, by rw [Nat.zero_add]; exact this.2.2⟩
theorem isWord_l {t : Nat → Int32} {s p n id : Nat} {ρ : St} (hs : s ≤ 400) (L : Lay ρ) (T : Tpm t s ρ) (h37 : sI ρ 101 37 = nI p) (hid : id < 22) (h3 : 3 ≤ id) (hn : lenS.getD id 0 = n) (hp : p + n ≤ s) (W : Wrd t p n) : ∀ (j i fuel : Nat), i + j = n → j < fuel → (f12_isWord_p28 fuel ρ 101 id (nI i) = some (1, ρ) ∧ ∀ q, i ≤ q → q < n → t (p + q) = strCh id q) ∨ (f12_isWord_p28 fuel ρ 101 id (nI i) = some (0, ρ) ∧ ¬ ∀ q, i ≤ q → q < n → t (p + q) = strCh id q) := by
  have n8 : n ≤ 8 := by rw [← hn]; exact (strOk id hid h3).1
  intro j
  induction j with
  | zero =>
    intro i fuel hi hf
    obtain ⟨f, rfl, -⟩ := suc_of hf
    exact Or.inl ⟨by rw [f12_isWord_p28, gd_t (decide_eq_true hid), hn, if_neg (show ¬ nI i < Int32.ofNat n from nI_nlt (by omega) (by omega))], fun q q1 q2 => by omega⟩
  | succ j ih =>
    intro i fuel hi hf
    obtain ⟨f, rfl, hf2⟩ := suc_of hf
    obtain ⟨c, c1, c2, c3⟩ := W i (by omega)
    have ch : chOk id (nI i) = true := by
      unfold chOk
      rw [hn, nI_toInt (by omega)]
      simp only [Bool.and_eq_true, decide_eq_true_eq]
      omega
    rw [f12_isWord_p28, gd_t (decide_eq_true hid), hn, if_pos (show nI i < Int32.ofNat n from nI_lt (by omega) (by omega)), gd_t (oL101 L), lt_b, rL101_34 L, gd_t nz_s, gd_t (oL131 L), h37, nI_add, gd_t (inb_n (lL131 L) (by omega) (by decide)), gd_t (decide_eq_true hid), gd_t ch, ix_n (k := p + i) (by omega), ix_n (k := i) (by omega), T.2 _ (by omega), c3, sb_id c (by omega)]
    by_cases h : nI c = strCh id i
    · rw [if_pos h, lt_b, nI_1]
      rcases ih (i + 1) f (by omega) (by omega) with ⟨w1, w2⟩ | ⟨w1, w2⟩
      · refine Or.inl ⟨w1, fun q q1 q2 => ?_⟩
        by_cases e : q = i
        · rw [e, c3]; exact h
        · exact w2 q (by omega) q2
      · exact Or.inr ⟨w1, fun w => w2 (fun q q1 q2 => w q (by omega) q2)⟩
    · rw [if_neg h]
      exact Or.inr ⟨rfl, fun w => h (by rw [← c3]; exact w i (Nat.le_refl _) (by omega))⟩
theorem isWord_s {t : Nat → Int32} {s p id : Nat} {ρ : St} (hs : s ≤ 400) (B : Byt t s) (L : Lay ρ) (T : Tpm t s ρ) (K : Tkm t s p ρ) (hid : id < 22) (h3 : 3 ≤ id) : f12_isWord ρ 101 id = some (if soF t s p = 3 ∧ wnF t s p = pwS id then 1 else 0, ρ) := by
  unfold f12_isWord
  rw [gd_t (oL101 L), K.2.2.1]
  by_cases c : soF t s p = 3
  · obtain ⟨c1, c2, c3, c4, c5, -⟩ := tok_3 B c
    have te := teF_sp (t := t) (show p ≤ s by omega)
    rw [if_pos c, gd_t (decide_eq_true hid), K.2.1, K.1, pk_sub te.1]
    have n8 := (strOk id hid h3).1
    have eq : wnF t s p = pwS id ↔ teF t s p - p = lenS.getD id 0 ∧ ∀ q, q < teF t s p - p → t (p + q) = strCh id (0 + q) := pw_inj _ _ c5 (strW hid h3)
    by_cases d : teF t s p - p = lenS.getD id 0
    · rw [if_pos (show nI (teF t s p - p) = Int32.ofNat (lenS.getD id 0) by rw [d]; rfl)]
      have w := isWord_l (id := id) hs L T K.1 hid h3 d.symm (by omega) c5 (teF t s p - p) 0 FU (by omega) (by unfold FU; omega)
      show f12_isWord_p28 FU ρ 101 id (nI 0) = _
      rcases w with ⟨w, g⟩ | ⟨w, g⟩
      · rw [w, if_pos ⟨c, eq.mpr ⟨d, fun q hq => by rw [Nat.zero_add]; exact g q (Nat.zero_le _) hq⟩⟩]
      · rw [w, if_neg (fun u => g (fun q _ hq => by have := (eq.mp u.2).2 q hq; rw [Nat.zero_add] at this; exact this))]
    · rw [if_neg (show ¬ nI (teF t s p - p) = Int32.ofNat (lenS.getD id 0) from fun q => d ((nI_eq (b := lenS.getD id 0) (by omega) (by omega)).mp q)), if_neg (fun u => d (eq.mp u.2).1)]
  · rw [if_neg c, if_neg (fun u => c u.1)]
/-- words that begin rules and join conds: the id of the reference, the kind of the class -/
theorem isKw_s {t : Nat → Int32} {s p id q : Nat} {ρ : St} (hs : s ≤ 400) (B : Byt t s) (L : Lay ρ) (T : Tpm t s ρ) (K : Tkm t s p ρ) (hid : id < 22) (h3 : 3 ≤ id) (hq : q < 10) (e : pwS id = kwL.getD q 0) : f12_isWord ρ 101 id = some (if tkF t s p = nI (256 + q) then 1 else 0, ρ) := by
  rw [isWord_s hs B L T K hid h3, e]
  by_cases c : soF t s p = 3
  · have w := tok_3 B c
    have k := kwS_is (n := wnF t s p) hq w.2.2.2.2.2.2.2
    rw [w.2.2.2.2.2.1]
    by_cases g : wnF t s p = kwL.getD q 0
    · rw [if_pos ⟨c, g⟩, if_pos (k.mpr g)]
    · rw [if_neg (fun u => g u.2), if_neg (fun u => g (k.mp u))]
  · rw [if_neg (fun u => c u.1), if_neg]
    intro h
    rcases tok_or (p := p) B with ⟨a, b, -⟩ | ⟨a, b⟩ | ⟨a, b, -⟩ | ⟨a, b⟩ | ⟨a, b, l, -⟩
    · rw [b] at h; exact nneg (d := 256 + q) (by omega) (by decide) h
    · rw [b] at h; exact nneg (d := 256 + q) (by omega) (by decide) h
    · rw [b] at h; exact nneg (d := 256 + q) (by omega) (by decide) h
    · exact c a
    · obtain ⟨x, hx, e⟩ := B p l
      rw [b, e] at h
      have := (nI_eq (by omega) (by omega)).mp h
      omega
theorem pwS_k : pwS 3 = kwL.getD 0 0 ∧ pwS 4 = kwL.getD 1 0 ∧ pwS 5 = kwL.getD 2 0 ∧ pwS 6 = kwL.getD 3 0 ∧ pwS 8 = kwL.getD 4 0 ∧ pwS 7 = kwL.getD 5 0 ∧ pwS 9 = kwL.getD 6 0 ∧ pwS 10 = kwL.getD 7 0 ∧ pwS 11 = kwL.getD 8 0 ∧ pwS 12 = kwL.getD 9 0 := by decide +kernel
theorem isBarredWord_s {t : Nat → Int32} {s p : Nat} {ρ : St} (hs : s ≤ 400) (B : Byt t s) (L : Lay ρ) (T : Tpm t s ρ) (K : Tkm t s p ρ) (h : soF t s p = 3) : f12_isBarredWord ρ 101 = some (if tkF t s p = -4 then 0 else 1, ρ) := by
  obtain ⟨k0, k1, k2, k3, k4, k5, k6, k7, k8, k9⟩ := pwS_k
  have e := fun id q h1 h2 h3 h4 => isKw_s (id := id) (q := q) hs B L T K h1 h2 h3 h4
  unfold f12_isBarredWord
  rw [gd_t (oL101 L), bd_s (e 3 0 (by decide) (by decide) (by decide) k0), ite_B, bd_s (e 4 1 (by decide) (by decide) (by decide) k1), ite_B, bd_s (e 5 2 (by decide) (by decide) (by decide) k2), ite_B, bd_s (e 6 3 (by decide) (by decide) (by decide) k3), ite_B, bd_s (e 8 4 (by decide) (by decide) (by decide) k4), ite_B, bd_s (e 7 5 (by decide) (by decide) (by decide) k5), ite_B, bd_s (e 9 6 (by decide) (by decide) (by decide) k6), ite_B, bd_s (e 10 7 (by decide) (by decide) (by decide) k7), ite_B, bd_s (e 11 8 (by decide) (by decide) (by decide) k8), ite_B, bd_s (e 12 9 (by decide) (by decide) (by decide) k9), ite_B]
  have w := tok_3 B h
  rcases tok_or (p := p) B with ⟨a, b, -⟩ | ⟨a, b⟩ | ⟨a, b, -⟩ | ⟨a, b⟩ | ⟨a, b, l, -⟩
  · rw [h] at a; exact absurd a (by decide)
  · rw [h] at a; exact absurd a (by decide)
  · rw [h] at a; exact absurd a (by decide)
  · rcases b with b | ⟨q, hq, b⟩
    · rw [b]
      have n : ∀ q, q < 10 → ¬ (-4 : Int32) = nI (256 + q) := fun q hq => nneg (by omega) (by decide)
      rw [if_neg (n 0 (by decide)), if_neg (n 1 (by decide)), if_neg (n 2 (by decide)), if_neg (n 3 (by decide)), if_neg (n 4 (by decide)), if_neg (n 5 (by decide)), if_neg (n 6 (by decide)), if_neg (n 7 (by decide)), if_neg (n 8 (by decide)), if_neg (n 9 (by decide)), if_pos rfl]
    · rw [b, if_neg (c := nI (256 + q) = -4) (fun u => nneg (d := 256 + q) (by omega) (x := -4) (by decide) u.symm)]
      have : q = 0 ∨ q = 1 ∨ q = 2 ∨ q = 3 ∨ q = 4 ∨ q = 5 ∨ q = 6 ∨ q = 7 ∨ q = 8 ∨ q = 9 := by omega
      rcases this with rfl | rfl | rfl | rfl | rfl | rfl | rfl | rfl | rfl | rfl <;> rfl
  · rw [h] at a; exact absurd a (by decide)
