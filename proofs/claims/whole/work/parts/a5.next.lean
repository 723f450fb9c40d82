/-! THE NEXT TOKEN, in the reference -/
def Tkm (t : Nat → Int32) (s p : Nat) (ρ : St) : Prop := sI ρ 101 37 = nI p ∧ sI ρ 101 36 = nI (teF t s p) ∧ sI ρ 101 38 = soF t s p ∧ (soF t s p = 2 → sI ρ 101 39 = nI (nmF t p (teF t s p - p))) ∧ (soF t s p = 4 → sI ρ 101 39 = sbF (t p))
theorem next52_s {t : Nat → Int32} {s p : Nat} {ρ : St} (hs : s ≤ 400) (B : Byt t s) (L : Lay ρ) (T : Tpm t s ρ) (hp : p ≤ s) (h36 : sI ρ 101 36 = nI p) : ∃ ρ', f12_next_p52 ρ 101 = some ((), ρ') ∧ Fr Wnx ρ ρ' ∧ Tkm t s p ρ' := by
  have L1 : Lay (wI ρ 101 37 (nI p)) := Lay_wI L
  have f1 : Fr Wnx ρ (wI ρ 101 37 (nI p)) := Fr_wI Fr_rf (Or.inl (by unfold Wnx; omega))
  unfold f12_next_p52
  rw [gd_t (oL101 L), h36, lt_b, sI_wk (by decide), h36, sI_wk (by decide), T.1]
  by_cases c : p < s
  · obtain ⟨x, hx, hxe⟩ := B p c
    rw [if_pos (nI_lt c (by omega)), lt_b, rL101_34 L1, gd_t nz_s, gd_t (oL131 L1), gd_t (inb_n (lL131 L1) (by omega) (by decide)), lt_b, ix_n (by omega), sI_wo (by decide), T.2 p c, nI_1, lt_b, lt_b, bd_s isSmall_s, hxe, sb_lt x hx, ite_B]
    have L3 : Lay (wI (wI (wI ρ 101 37 (nI p)) 101 36 (nI (p + 1))) 101 39 (sbF (nI x))) := Lay_wI (Lay_wI L1)
    have f3 : Fr Wnx ρ (wI (wI (wI ρ 101 37 (nI p)) 101 36 (nI (p + 1))) 101 39 (sbF (nI x))) := by
      refine Fr_wI (Fr_wI f1 ?_) ?_ <;> exact Or.inl (by unfold Wnx; omega)
    have T3 : Tpm t s (wI (wI (wI ρ 101 37 (nI p)) 101 36 (nI (p + 1))) 101 39 (sbF (nI x))) := Tpm_Fr f3 L (fun x k q => by unfold Wnx; omega) T
    by_cases c1 : ltB (nI x) = true
    · have c1' : ltB (t p) = true := by rw [hxe]; exact c1
      have te : teF t s p = rnT ltB t s p := by unfold teF; rw [if_pos c, if_pos c1']
      have so : soF t s p = if rnT ltB t s p - p ≤ 8 then 3 else 1 := by unfold soF; rw [if_pos c, if_pos c1']
      obtain ⟨ρ', w1, w2, w3, w4, w5⟩ := word_lp hs B (p := p) (s - (p + 1)) (p + 1) FU _ (Nat.le_refl _) (by omega) (by unfold FU; omega) (by omega) L3 T3 (by rw [sI_wk (by decide), sI_w1]) (by rw [sI_wk (by decide), sI_wk (by decide), sI_w1])
      rw [← rnT_y c c1'] at w3 w5
      rw [if_pos c1]
      refine ⟨ρ', w1, Fr_tr f3 w2, w4, by rw [te]; exact w3, by rw [so]; exact w5, fun q => ?_, fun q => ?_⟩
      · rw [so] at q
        by_cases d : rnT ltB t s p - p ≤ 8
        · rw [if_pos d] at q; exact absurd q (by decide)
        · rw [if_neg d] at q; exact absurd q (by decide)
      · rw [so] at q
        by_cases d : rnT ltB t s p - p ≤ 8
        · rw [if_pos d] at q; exact absurd q (by decide)
        · rw [if_neg d] at q; exact absurd q (by decide)
    · have c1' : ¬ ltB (t p) = true := by rw [hxe]; exact c1
      rw [if_neg c1, bd_s isDigit_s, sb_fg x hx, ite_B]
      by_cases c2 : fgB (nI x) = true
      · have c2' : fgB (t p) = true := by rw [hxe]; exact c2
        have hb := fg_byte c2 (by omega)
        have te : teF t s p = rnT fgB t s p := by unfold teF; rw [if_pos c, if_neg c1', if_pos c2']
        have so : soF t s p = if rnT fgB t s p - p ≤ 4 then 2 else 1 := by unfold soF; rw [if_pos c, if_neg c1', if_pos c2']
        have e48 : sbF (nI x) - 48 = nI (nmF t p (mi4 (p + 1 - p))) := by
          rw [sb_id x (by omega), show (48 : Int32) = nI 48 from rfl, pk_sub (by omega), show p + 1 - p = 1 by omega]
          show _ = nI (0 * 10 + (ix (t (p + 0)) - 48))
          rw [Nat.add_zero, hxe, ix_n (by omega), Nat.zero_mul, Nat.zero_add]
        have L4 : Lay (wI (wI (wI (wI ρ 101 37 (nI p)) 101 36 (nI (p + 1))) 101 39 (sbF (nI x))) 101 39 (sbF (nI x) - 48)) := Lay_wI L3
        have f4 : Fr Wnx ρ (wI (wI (wI (wI ρ 101 37 (nI p)) 101 36 (nI (p + 1))) 101 39 (sbF (nI x))) 101 39 (sbF (nI x) - 48)) := Fr_wI f3 (Or.inl (by unfold Wnx; omega))
        obtain ⟨ρ', w1, w2, w3, w4, w5, w6⟩ := num_lp hs B (p := p) (s - (p + 1)) (p + 1) FU _ (Nat.le_refl _) (by omega) (by unfold FU; omega) (by omega) (fun q q1 q2 => by rw [show q = p by omega]; exact c2') L4 (Tpm_Fr f4 L (fun x k q => by unfold Wnx; omega) T) (by rw [sI_wk (by decide), sI_wk (by decide), sI_w1]) (by rw [sI_wk (by decide), sI_wk (by decide), sI_wk (by decide), sI_w1]) (by rw [sI_w1]; exact e48)
        rw [← rnT_y c c2'] at w3 w5 w6
        rw [if_pos c2, lt_b]
        refine ⟨ρ', w1, Fr_tr f4 w2, w4, by rw [te]; exact w3, by rw [so]; exact w5, fun q => ?_, fun q => ?_⟩
        · rw [so] at q
          by_cases d : rnT fgB t s p - p ≤ 4
          · rw [w6, te]
            have : mi4 (rnT fgB t s p - p) = rnT fgB t s p - p := if_pos d
            rw [this]
          · rw [if_neg d] at q; exact absurd q (by decide)
        · rw [so] at q
          by_cases d : rnT fgB t s p - p ≤ 4
          · rw [if_pos d] at q; exact absurd q (by decide)
          · rw [if_neg d] at q; exact absurd q (by decide)
      · have c2' : ¬ fgB (t p) = true := by rw [hxe]; exact c2
        have te : teF t s p = p + 1 := by unfold teF; rw [if_pos c, if_neg c1', if_neg c2']
        have so : soF t s p = 4 := by unfold soF; rw [if_pos c, if_neg c1', if_neg c2']
        rw [if_neg c2, lt_b]
        refine ⟨_, rfl, Fr_wI f3 (Or.inl (by unfold Wnx; omega)), ?_, ?_, ?_, fun q => ?_, fun _ => ?_⟩
        · rw [sI_wk (by decide), sI_wk (by decide), sI_wk (by decide), sI_w1]
        · rw [sI_wk (by decide), sI_wk (by decide), sI_w1, te]
        · rw [sI_w1, so]
        · rw [so] at q; exact absurd q (by decide)
        · rw [sI_wk (by decide), sI_w1, hxe]
  · have te : teF t s p = s := by unfold teF; rw [if_neg c]
    have so : soF t s p = 0 := by unfold soF; rw [if_neg c]
    have ps : p = s := by omega
    rw [if_neg (nI_nlt (by omega) (by omega)), lt_b]
    refine ⟨_, rfl, Fr_wI f1 (Or.inl (by unfold Wnx; omega)), ?_, ?_, ?_, fun q => ?_, fun q => ?_⟩
    · rw [sI_wk (by decide), sI_w1]
    · rw [sI_wk (by decide), sI_wk (by decide), h36, te, ps]
    · rw [sI_w1, so]
    · rw [so] at q; exact absurd q (by decide)
    · rw [so] at q; exact absurd q (by decide)
theorem next_l {t : Nat → Int32} {s : Nat} (hs : s ≤ 400) (B : Byt t s) : ∀ (j a fuel : Nat) (ρ : St), s - a ≤ j → a ≤ s → j < fuel → Lay ρ → Tpm t s ρ → sI ρ 101 36 = nI a → ∃ ρ', f12_next_p0 fuel ρ 101 = some ((), ρ') ∧ Fr Wnx ρ ρ' ∧ Tkm t s (rnT spB t s a) ρ' := by
  intro j
  induction j with
  | zero =>
    intro a fuel ρ hj ha hf L T h36
    obtain ⟨f, rfl, -⟩ := suc_of hf
    have : a = s := by omega
    subst this
    rw [rnT_s (Nat.le_refl _), f12_next_p0, gd_t (oL101 L), h36, T.1, if_neg (nI_nlt (by omega) (by omega))]
    exact next52_s hs B L T (Nat.le_refl _) h36
  | succ j ih =>
    intro a fuel ρ hj ha hf L T h36
    obtain ⟨f, rfl, hf2⟩ := suc_of hf
    by_cases c : a < s
    · obtain ⟨x, hx, hxe⟩ := B a c
      have e32 : sbF (nI x) = 32 ↔ t a = 32 := by rw [hxe]; exact sb_eq (d := 32) hx (by decide)
      have e10 : sbF (nI x) = 10 ↔ t a = 10 := by rw [hxe]; exact sb_eq (d := 10) hx (by decide)
      rw [f12_next_p0, gd_t (oL101 L), h36, T.1, if_pos (nI_lt c (by omega)), lt_b, rL101_34 L, gd_t nz_s, gd_t (oL131 L), gd_t (inb_n (lL131 L) (by omega) (by decide)), ix_n (by omega), T.2 a c]
      have skip : spB (t a) = true → ∃ ρ', f12_next_p39 (f12_next_p0 f) ρ 101 = some ((), ρ') ∧ Fr Wnx ρ ρ' ∧ Tkm t s (rnT spB t s a) ρ' := fun hsp => by
        have fr : Fr Wnx ρ (wI ρ 101 36 (nI (a + 1))) := Fr_wI Fr_rf (Or.inl (by unfold Wnx; omega))
        obtain ⟨ρ', w1, w2, w3⟩ := ih (a + 1) f (wI ρ 101 36 (nI (a + 1))) (by omega) (by omega) (by omega) (Lay_wI L) (Tpm_Fr fr L (fun x k q => by unfold Wnx; omega) T) (sI_w1 _ _ _ _)
        rw [rnT_y c hsp]
        refine ⟨ρ', ?_, Fr_tr fr w2, w3⟩
        unfold f12_next_p39
        rw [gd_t (oL101 L), h36, lt_b, nI_1]
        exact w1
      rw [hxe]
      by_cases c1 : sbF (nI x) = 32
      · rw [if_pos c1]; exact skip (decide_eq_true (Or.inl (e32.mp c1)))
      · rw [if_neg c1]
        by_cases c2 : sbF (nI x) = 10
        · rw [if_pos c2]; exact skip (decide_eq_true (Or.inr (e10.mp c2)))
        · rw [if_neg c2]
          have hsp : ¬ spB (t a) = true := fun q => by
            rcases of_decide_eq_true q with q | q
            · exact c1 (e32.mpr q)
            · exact c2 (e10.mpr q)
          rw [rnT_n hsp]
          exact next52_s hs B L T (by omega) h36
    · have : a = s := by omega
      subst this
      rw [rnT_s (Nat.le_refl _), f12_next_p0, gd_t (oL101 L), h36, T.1, if_neg (nI_nlt (by omega) (by omega))]
      exact next52_s hs B L T (Nat.le_refl _) h36
theorem next_s {t : Nat → Int32} {s a : Nat} {ρ : St} (hs : s ≤ 400) (B : Byt t s) (L : Lay ρ) (T : Tpm t s ρ) (ha : a ≤ s) (h36 : sI ρ 101 36 = nI a) : ∃ ρ', f12_next ρ 101 = some ((), ρ') ∧ Fr Wnx ρ ρ' ∧ Tkm t s (rnT spB t s a) ρ' :=
  next_l hs B s a FU ρ (by omega) ha (by unfold FU; omega) L T h36
/-! WORDS AS NUMBERS -/
def Wrd (t : Nat → Int32) (p n : Nat) : Prop := ∀ q, q < n → ∃ c, 97 ≤ c ∧ c ≤ 122 ∧ t (p + q) = nI c
theorem pw_b {t : Nat → Int32} {p : Nat} : ∀ n, Wrd t p n → pwF t p n < 32 ^ n ∧ (0 < n → 0 < pwF t p n) := by
  intro n
  induction n with
  | zero => intro _; exact ⟨by show 0 < 1; decide, fun h => absurd h (by omega)⟩
  | succ n ih =>
    intro h
    have a := (ih (fun q hq => h q (by omega))).1
    obtain ⟨c, h1, h2, h3⟩ := h n (by omega)
    have e : pwF t p (n + 1) = pwF t p n * 32 + (c - 96) := by
      show pwF t p n * 32 + (ix (t (p + n)) - 96) = _
      rw [h3, ix_n (by omega)]
    rw [e]
    refine ⟨?_, fun _ => by omega⟩
    show _ < 32 ^ n * 32
    omega
theorem pw_inj {t u : Nat → Int32} {p r : Nat} : ∀ n m, Wrd t p n → Wrd u r m → (pwF t p n = pwF u r m ↔ n = m ∧ ∀ q, q < n → t (p + q) = u (r + q)) := by
  intro n
  induction n with
  | zero =>
    intro m _ hm
    have e0 : pwF t p 0 = 0 := rfl
    constructor
    · intro h
      rw [e0] at h
      have : m = 0 := by
        rcases Nat.eq_zero_or_pos m with h0 | h0
        · exact h0
        · have := (pw_b m hm).2 h0; omega
      exact ⟨this.symm, fun q hq => absurd hq (by omega)⟩
    · rintro ⟨rfl, -⟩; rfl
  | succ n ih =>
    intro m hn hm
    obtain ⟨c, c1, c2, c3⟩ := hn n (by omega)
    have e : pwF t p (n + 1) = pwF t p n * 32 + (c - 96) := by
      show pwF t p n * 32 + (ix (t (p + n)) - 96) = _
      rw [c3, ix_n (by omega)]
    cases m with
    | zero =>
      have e0 : pwF u r 0 = 0 := rfl
      constructor
      · intro h; rw [e, e0] at h; omega
      · rintro ⟨h, -⟩; omega
    | succ m =>
      obtain ⟨d, d1, d2, d3⟩ := hm m (by omega)
      have e' : pwF u r (m + 1) = pwF u r m * 32 + (d - 96) := by
        show pwF u r m * 32 + (ix (u (r + m)) - 96) = _
        rw [d3, ix_n (by omega)]
      have i := ih m (fun q hq => hn q (by omega)) (fun q hq => hm q (by omega))
      rw [e, e']
      constructor
      · intro h
        have h1 : pwF t p n = pwF u r m := by omega
        have h2 : c = d := by omega
        obtain ⟨j1, j2⟩ := i.mp h1
        refine ⟨by omega, fun q hq => ?_⟩
        by_cases w : q = n
        · rw [w, c3, j1, d3, h2]
        · exact j2 q (by omega)
      · rintro ⟨h1, h2⟩
        have h3 : n = m := by omega
        have h4 := i.mpr ⟨h3, fun q hq => h2 q (by omega)⟩
        have h5 := h2 n (by omega)
        rw [c3, h3, d3] at h5
        have := (nI_eq (by omega) (by omega)).mp h5
        rw [h4, this]
theorem lN_inj {a b : Nat} (ha : a < 2 ^ 63) (hb : b < 2 ^ 63) (h : lN a = lN b) : a = b := by
  have e1 : (lN a).toInt = a := by unfold lN; exact Int64.toInt_ofNat_of_lt ha
  have e2 : (lN b).toInt = b := by unfold lN; exact Int64.toInt_ofNat_of_lt hb
  rw [h, e2] at e1
  omega
theorem pw_8 {t : Nat → Int32} {p n : Nat} (h : Wrd t p n) (hn : n ≤ 8) : pwF t p n < 2 ^ 63 := by
  have a := (pw_b n h).1
  have : 32 ^ n ≤ 32 ^ 8 := Nat.pow_le_pow_right (by decide) hn
  omega
