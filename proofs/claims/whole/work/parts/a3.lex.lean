/-! TOKENS of a tape, purely -/
def ltB (x : Int32) : Bool := decide (¬ x < 97 ∧ x ≤ 122)
def fgB (x : Int32) : Bool := decide (¬ x < 48 ∧ x ≤ 57)
def spB (x : Int32) : Bool := decide (x = 32 ∨ x = 10)
def ruP (p : Int32 → Bool) (t : Nat → Int32) : Nat → Nat → Nat
  | 0, i => i
  | j + 1, i => if p (t i) = true then ruP p t j (i + 1) else i
theorem ruP_sp {p : Int32 → Bool} {t : Nat → Int32} : ∀ j i, i ≤ ruP p t j i ∧ ruP p t j i ≤ i + j ∧ (∀ q, i ≤ q → q < ruP p t j i → p (t q) = true) ∧ (ruP p t j i < i + j → ¬ p (t (ruP p t j i)) = true) := by
  intro j
  induction j with
  | zero => intro i; exact ⟨Nat.le_refl _, Nat.le_refl _, fun q h1 h2 => absurd h2 (by show ¬ q < i; omega), fun h => absurd h (by show ¬ i < i + 0; omega)⟩
  | succ j ih =>
    intro i
    unfold ruP
    by_cases h : p (t i) = true
    · rw [if_pos h]
      obtain ⟨h1, h2, h3, h4⟩ := ih (i + 1)
      refine ⟨by omega, by omega, fun q q1 q2 => ?_, fun w => h4 (by omega)⟩
      by_cases e : q = i
      · rw [e]; exact h
      · exact h3 q (by omega) q2
    · rw [if_neg h]
      exact ⟨Nat.le_refl _, by omega, fun q h1 h2 => by omega, fun _ => h⟩
/-- from i on: the first that is not one of p, or s -/
def rnT (p : Int32 → Bool) (t : Nat → Int32) (s i : Nat) : Nat := ruP p t (s - i) i
theorem rnT_sp {p : Int32 → Bool} {t : Nat → Int32} {s i : Nat} (h : i ≤ s) : i ≤ rnT p t s i ∧ rnT p t s i ≤ s ∧ (∀ q, i ≤ q → q < rnT p t s i → p (t q) = true) ∧ (rnT p t s i < s → ¬ p (t (rnT p t s i)) = true) := by
  obtain ⟨h1, h2, h3, h4⟩ := ruP_sp (p := p) (t := t) (s - i) i
  exact ⟨h1, by unfold rnT; omega, h3, fun w => h4 (by unfold rnT at w; omega)⟩
theorem rnT_y {p : Int32 → Bool} {t : Nat → Int32} {s i : Nat} (h : i < s) (hp : p (t i) = true) : rnT p t s i = rnT p t s (i + 1) := by
  unfold rnT
  rw [show s - i = (s - (i + 1)) + 1 by omega, ruP, if_pos hp]
theorem rnT_n {p : Int32 → Bool} {t : Nat → Int32} {s i : Nat} (hp : ¬ p (t i) = true) : rnT p t s i = i := by
  unfold rnT
  cases s - i with
  | zero => rfl
  | succ j => rw [ruP, if_neg hp]
theorem rnT_s {p : Int32 → Bool} {t : Nat → Int32} {s i : Nat} (h : s ≤ i) : rnT p t s i = i := by
  unfold rnT
  rw [show s - i = 0 by omega]
  rfl
def teF (t : Nat → Int32) (s p : Nat) : Nat := if p < s then (if ltB (t p) = true then rnT ltB t s p else if fgB (t p) = true then rnT fgB t s p else p + 1) else s
def tpF (t : Nat → Int32) (s : Nat) : Nat → Nat
  | 0 => rnT spB t s 0
  | k + 1 => rnT spB t s (teF t s (tpF t s k))
def pwF (t : Nat → Int32) (p : Nat) : Nat → Nat
  | 0 => 0
  | n + 1 => pwF t p n * 32 + (ix (t (p + n)) - 96)
def nmF (t : Nat → Int32) (p : Nat) : Nat → Nat
  | 0 => 0
  | n + 1 => nmF t p n * 10 + (ix (t (p + n)) - 48)
def kwL : List Nat := [12468, 217647396, 1454583, 671116, 486, 23609, 294, 498, 1476, 14836]
def kwI (i : Nat) : Int64 := lN (kwL.getD i 0)
def kwS (w : Int64) : Nat → Nat → Int32
  | 0, _ => -4
  | j + 1, i => if kwI i = w then nI (256 + i) else kwS w j (i + 1)
def tkF (t : Nat → Int32) (s p : Nat) : Int32 := if p < s then (if ltB (t p) = true then (if rnT ltB t s p - p ≤ 8 then kwS (lN (pwF t p (rnT ltB t s p - p))) 10 0 else -2) else if fgB (t p) = true then (if rnT fgB t s p - p ≤ 4 then -3 else -2) else t p) else -1
def tvF (t : Nat → Int32) (s p : Nat) : Int64 := if p < s then (if ltB (t p) = true then lN (pwF t p (rnT ltB t s p - p)) else if fgB (t p) = true then lN (nmF t p (rnT fgB t s p - p)) else 0) else 0
def soF (t : Nat → Int32) (s p : Nat) : Int32 := if p < s then (if ltB (t p) = true then (if rnT ltB t s p - p ≤ 8 then 3 else 1) else if fgB (t p) = true then (if rnT fgB t s p - p ≤ 4 then 2 else 1) else 4) else 0
theorem teF_sp {t : Nat → Int32} {s p : Nat} (h : p ≤ s) : p ≤ teF t s p ∧ teF t s p ≤ s ∧ (p < s → p < teF t s p) := by
  unfold teF
  by_cases c : p < s
  · rw [if_pos c]
    by_cases c1 : ltB (t p) = true
    · rw [if_pos c1, rnT_y c c1]
      have := rnT_sp (p := ltB) (t := t) (show p + 1 ≤ s by omega)
      omega
    · rw [if_neg c1]
      by_cases c2 : fgB (t p) = true
      · rw [if_pos c2, rnT_y c c2]
        have := rnT_sp (p := fgB) (t := t) (show p + 1 ≤ s by omega)
        omega
      · rw [if_neg c2]; omega
  · rw [if_neg c]; omega
theorem tpF_le {t : Nat → Int32} {s : Nat} : ∀ k, tpF t s k ≤ s ∧ (tpF t s k < s → k ≤ tpF t s k) ∧ (tpF t s k < s → ¬ spB (t (tpF t s k)) = true) := by
  intro k
  induction k with
  | zero =>
    have := rnT_sp (p := spB) (t := t) (Nat.zero_le s)
    exact ⟨this.2.1, fun _ => Nat.zero_le _, this.2.2.2⟩
  | succ k ih =>
    have e := teF_sp (t := t) ih.1
    have r := rnT_sp (p := spB) (t := t) e.2.1
    refine ⟨r.2.1, fun h => ?_, r.2.2.2⟩
    show k + 1 ≤ rnT spB t s (teF t s (tpF t s k))
    have hk : tpF t s k < s := by
      have h' : rnT spB t s (teF t s (tpF t s k)) < s := h
      omega
    have := ih.2.1 hk
    have := e.2.2 hk
    omega
theorem tpF_up {t : Nat → Int32} {s k : Nat} (h : tpF t s k < s) : tpF t s k < tpF t s (k + 1) := by
  have a := (tpF_le (t := t) (s := s) k).1
  have e := teF_sp (t := t) a
  have r := rnT_sp (p := spB) (t := t) e.2.1
  show tpF t s k < rnT spB t s (teF t s (tpF t s k))
  have := e.2.2 h
  omega
theorem tpF_end {t : Nat → Int32} {s k : Nat} (h : tpF t s k = s) : tpF t s (k + 1) = s := by
  show rnT spB t s (teF t s (tpF t s k)) = s
  have : teF t s (tpF t s k) = s := by unfold teF; rw [if_neg (by omega)]
  rw [this]
  exact rnT_s (Nat.le_refl _)
/-! the class splits -/
theorem isLetter_s {σ : St} {x : Int32} : f7_isLetter σ x = some (if ltB x = true then 1 else 0, σ) := by
  unfold f7_isLetter ltB
  by_cases h1 : x < 97
  · rw [if_pos h1, if_neg (fun w => (of_decide_eq_true w).1 h1)]
  · rw [if_neg h1]
    by_cases h2 : x ≤ 122
    · rw [if_pos h2, if_pos (decide_eq_true ⟨h1, h2⟩)]
    · rw [if_neg h2, if_neg (fun w => h2 (of_decide_eq_true w).2)]
theorem isFigure_s {σ : St} {x : Int32} : f7_isFigure σ x = some (if fgB x = true then 1 else 0, σ) := by
  unfold f7_isFigure fgB
  by_cases h1 : x < 48
  · rw [if_pos h1, if_neg (fun w => (of_decide_eq_true w).1 h1)]
  · rw [if_neg h1]
    by_cases h2 : x ≤ 57
    · rw [if_pos h2, if_pos (decide_eq_true ⟨h1, h2⟩)]
    · rw [if_neg h2, if_neg (fun w => h2 (of_decide_eq_true w).2)]
def Wtk (x k : Nat) : Prop := x = 47 ∨ x = 48 ∨ x = 49 ∨ x = 46 ∧ k = 6
theorem sI_wLr (σ : St) (a k : Nat) (v : Int64) (b j : Nat) : sI (wL σ a k v) b j = sI σ b j := rfl
theorem sL_wIr (σ : St) (a k : Nat) (v : Int32) (b j : Nat) : sL (wI σ a k v) b j = sL σ b j := rfl
theorem sR_wLr (σ : St) (a k : Nat) (v : Int64) : sR (wL σ a k v) = sR σ := rfl
theorem addToken_s {σ : St} (L : Lay σ) {n : Nat} (hn : sI σ 46 6 = nI n) (h : n < 401) (kd pl : Int32) (v : Int64) : f7_addToken σ 46 kd pl v = some ((), wI (wL (wI (wI σ 47 n kd) 48 n pl) 49 n v) 46 6 (nI (n + 1))) := by
  unfold f7_addToken
  rw [gd_t (oL46 L), lt_b, rL46_0 L, gd_t nz_s, gd_t (oL47 L), hn, lL47 L, if_pos (show nI n < Int32.ofNat 401 from nI_lt h (by decide))]
  simp (disch := omega) only [gd_1, lt_b, bd_1, nz_s, ob_wI, inb_wI, sR_wI, sK_wI, oL47 L, inb_n (lL47 L), oL48 L, inb_n (lL48 L), oL49 L, inb_n (lL49 L), rL46_1 L, rL46_2 L, nz_t, ix_n, sI_wo, hn, ob_wL, inb_wL, sR_wLr, sI_wLr, nI_1]
/-- tokens 0 .. n-1 are there -/
def Tks (t : Nat → Int32) (s n : Nat) (σ : St) : Prop := ∀ k, k < n → sI σ 47 k = tkF t s (tpF t s k) ∧ sI σ 48 k = nI (tpF t s k) ∧ sL σ 49 k = tvF t s (tpF t s k)
theorem Tks_add {t : Nat → Int32} {s n : Nat} {σ : St} (h : Tks t s n σ) {kd pl : Int32} {v : Int64} (e1 : kd = tkF t s (tpF t s n)) (e2 : pl = nI (tpF t s n)) (e3 : v = tvF t s (tpF t s n)) : Tks t s (n + 1) (wI (wL (wI (wI σ 47 n kd) 48 n pl) 49 n v) 46 6 (nI (n + 1))) := by
  intro k hk
  have a1 : sI (wI (wL (wI (wI σ 47 n kd) 48 n pl) 49 n v) 46 6 (nI (n + 1))) 47 k = if k = n then kd else sI σ 47 k := by rw [sI_wo (by decide), sI_wLr, sI_wo (by decide), sI_ws]
  have a2 : sI (wI (wL (wI (wI σ 47 n kd) 48 n pl) 49 n v) 46 6 (nI (n + 1))) 48 k = if k = n then pl else sI σ 48 k := by rw [sI_wo (by decide), sI_wLr, sI_ws, sI_wo (by decide)]
  have a3 : sL (wI (wL (wI (wI σ 47 n kd) 48 n pl) 49 n v) 46 6 (nI (n + 1))) 49 k = if k = n then v else sL σ 49 k := by
    rw [sL_wI, sL_wL]
    by_cases c : k = n
    · rw [if_pos ⟨rfl, c⟩, if_pos c]
    · rw [if_neg (fun w => c w.2), if_neg c]; rfl
  rw [a1, a2, a3]
  by_cases c : k = n
  · subst c
    rw [if_pos rfl, if_pos rfl, if_pos rfl]
    exact ⟨e1, e2, e3⟩
  · rw [if_neg c, if_neg c, if_neg c]
    exact h k (by omega)
theorem lt_byte {c : Nat} (h : ltB (nI c) = true) (hc : c < 2147483648) : 97 ≤ c ∧ c ≤ 122 := by
  have := of_decide_eq_true h
  have a := this.1
  have b := this.2
  rw [show (97 : Int32) = nI 97 from rfl, nI_ltI hc (by decide)] at a
  rw [show (122 : Int32) = nI 122 from rfl, nI_leI hc (by decide)] at b
  omega
theorem fg_byte {c : Nat} (h : fgB (nI c) = true) (hc : c < 2147483648) : 48 ≤ c ∧ c ≤ 57 := by
  have := of_decide_eq_true h
  have a := this.1
  have b := this.2
  rw [show (48 : Int32) = nI 48 from rfl, nI_ltI hc (by decide)] at a
  rw [show (57 : Int32) = nI 57 from rfl, nI_leI hc (by decide)] at b
  omega
/-- the bytes of a tape -/
def Byt (t : Nat → Int32) (s : Nat) : Prop := ∀ i, i < s → ∃ c, c < 256 ∧ t i = nI c
theorem pk_step {t : Nat → Int32} {p n c : Nat} (h : t (p + n) = nI c) (hl : 97 ≤ c ∧ c ≤ 122) : lN (pwF t p n) * 32 + ((nI c - 97) + 1).toInt64 = lN (pwF t p (n + 1)) := by
  have e1 : nI c - 97 + 1 = nI (c - 96) := by
    have : nI c - 97 = nI (c - 97) := pk_sub (b := 97) (by omega)
    rw [this, nI_1, show c - 97 + 1 = c - 96 by omega]
  have e2 : lN (pwF t p n) * 32 = lN (pwF t p n * 32) := lN_mul _ 32
  rw [e1, nI_l (by omega), e2, lN_add]
  show _ = lN (pwF t p n * 32 + (ix (t (p + n)) - 96))
  rw [h, ix_n (by omega)]
theorem nm_step {t : Nat → Int32} {p n c : Nat} (h : t (p + n) = nI c) (hl : 48 ≤ c ∧ c ≤ 57) : lN (nmF t p n) * 10 + (nI c - 48).toInt64 = lN (nmF t p (n + 1)) := by
  have e1 : nI c - 48 = nI (c - 48) := pk_sub (b := 48) (by omega)
  have e2 : lN (nmF t p n) * 10 = lN (nmF t p n * 10) := lN_mul _ 10
  rw [e1, nI_l (by omega), e2, lN_add]
  show _ = lN (nmF t p n * 10 + (ix (t (p + n)) - 48))
  rw [h, ix_n (by omega)]
theorem lc_0 {a b : Int64} : lg_cmp a b = 0 ↔ a = b := by
  unfold lg_cmp
  by_cases h1 : a > b
  · rw [if_pos h1]
    exact ⟨fun q => absurd q (by decide), fun q => by rw [q] at h1; exact absurd h1 (Int64.lt_irrefl)⟩
  · rw [if_neg h1]
    by_cases h2 : a = b
    · rw [if_pos h2]; exact ⟨fun _ => h2, fun _ => rfl⟩
    · rw [if_neg h2]; exact ⟨fun q => absurd q (by decide), fun q => absurd q h2⟩
/-- the words that begin rules and join conds are spelt -/
def gP (σ : St) : Prop := ∀ i, i < 10 → sL σ 50 i = kwI i
theorem splitW_l {σ : St} (L : Lay σ) (P : gP σ) {from_ : Int32} {w : Int64} {i6 : Int32} : ∀ (j i fuel : Nat), i + j = 10 → j + 1 < fuel → f7_splitWord_p60 fuel σ 46 from_ w i6 (-4) (nI i) = f7_splitWord_p104 σ 46 from_ w i6 (kwS w j i) := by
  intro j
  induction j with
  | zero =>
    intro i fuel hi hf
    obtain ⟨f, rfl, -⟩ := suc_of hf
    have : i = 10 := by omega
    subst this
    rw [f7_splitWord_p60, if_pos rfl, gd_t (oL46 L), lt_b, rL46_3 L, gd_t nz_s, gd_t (oL50 L), lL50 L, if_neg (by decide)]
    rfl
  | succ j ih =>
    intro i fuel hi hf
    obtain ⟨f, rfl, hf2⟩ := suc_of hf
    rw [f7_splitWord_p60, if_pos rfl, gd_t (oL46 L), lt_b, rL46_3 L, gd_t nz_s, gd_t (oL50 L), lL50 L, if_pos (show nI i < Int32.ofNat 10 from nI_lt (by omega) (by decide)), gd_t (inb_n (lL50 L) (by omega) (by decide)), ix_n (by omega), P i (by omega), kwS]
    unfold f7_splitWord_p98
    have ec := lc_0 (a := kwI i) (b := w)
    by_cases h : kwI i = w
    · rw [if_pos (ec.mpr h), if_pos h, lt_b, lt_b]
      obtain ⟨f, rfl, -⟩ := suc_of (show 0 < f by omega)
      have e : (256 : Int32) + nI i = nI (256 + i) := nI_add 256 i
      rw [f7_splitWord_p60, e, if_neg (fun q => by have := nI_pos' (n := 256 + i) (by omega); rw [q] at this; exact absurd this (by decide))]
    · rw [if_neg (fun q => h (ec.mp q)), if_neg h, lt_b, nI_1]
      exact ih (i + 1) f (by omega) (by omega)
theorem splitWord_l {σ : St} (L : Lay σ) (P : gP σ) {s p : Nat} (hs : s ≤ 400) (B : Byt (sI σ 100) s) (hp : p < s) : ∀ (j e fuel : Nat), e + j = s → p ≤ e → j < fuel → rnT ltB (sI σ 100) s p = rnT ltB (sI σ 100) s e →
    f7_splitWord_p6 fuel σ 46 100 (nI p) (nI s) (lN (pwF (sI σ 100) p (e - p))) (nI e) = f7_splitWord_p104 σ 46 (nI p) (lN (pwF (sI σ 100) p (rnT ltB (sI σ 100) s p - p))) (nI (rnT ltB (sI σ 100) s p)) (if rnT ltB (sI σ 100) s p - p ≤ 8 then kwS (lN (pwF (sI σ 100) p (rnT ltB (sI σ 100) s p - p))) 10 0 else -2) := by
  have fin : ∀ e, p ≤ e → e ≤ s → f7_splitWord_p39 σ 46 (nI p) (lN (pwF (sI σ 100) p (e - p))) (nI e) = f7_splitWord_p104 σ 46 (nI p) (lN (pwF (sI σ 100) p (e - p))) (nI e) (if e - p ≤ 8 then kwS (lN (pwF (sI σ 100) p (e - p))) 10 0 else -2) := by
    intro e h1 h2
    unfold f7_splitWord_p39 f7_splitWord_p55
    rw [pk_sub h1]
    by_cases c : e - p ≤ 8
    · rw [if_pos (show nI (e - p) ≤ 8 from nI_le (b := 8) c (by decide)), if_pos c]
      exact splitW_l L P 10 0 FU rfl (by unfold FU; omega)
    · rw [if_neg (show ¬ nI (e - p) ≤ 8 from nI_ge (a := 8) (by omega) (by omega)), if_neg c]
      unfold FU
      rw [f7_splitWord_p60, if_neg (by decide)]
  intro j
  induction j with
  | zero =>
    intro e fuel he hpe hf hr
    obtain ⟨f, rfl, -⟩ := suc_of hf
    have : e = s := by omega
    subst this
    rw [hr, rnT_s (Nat.le_refl _), f7_splitWord_p6, if_neg (nI_nlt (by omega) (by omega))]
    exact fin e (by omega) (Nat.le_refl _)
  | succ j ih =>
    intro e fuel he hpe hf hr
    obtain ⟨f, rfl, hf2⟩ := suc_of hf
    obtain ⟨c, hc, hce⟩ := B e (by omega)
    rw [f7_splitWord_p6, if_pos (nI_lt (by omega) (by omega)), gd_t (oL100 L), gd_t (inb_n (lL100 L) (by omega) (by decide)), ix_n (by omega), bd_s isLetter_s]
    by_cases h : ltB (sI σ 100 e) = true
    · have hb : 97 ≤ c ∧ c ≤ 122 := by rw [hce] at h; exact lt_byte h (by omega)
      have st : lN (pwF (sI σ 100) p (e - p)) * 32 + ((sI σ 100 e - 97) + 1).toInt64 = lN (pwF (sI σ 100) p (e + 1 - p)) := by
        have hce' : sI σ 100 (p + (e - p)) = nI c := by rw [show p + (e - p) = e by omega]; exact hce
        rw [hce, pk_step hce' hb, show e - p + 1 = e + 1 - p by omega]
      unfold f7_withLetter
      rw [if_pos h, if_neg (by decide), bd_1, lt_b, st, nI_1]
      exact ih (e + 1) f (by omega) (by omega) (by omega) (hr.trans (rnT_y (by omega) h))
    · rw [if_neg h, if_pos rfl, hr, rnT_n h]
      exact fin e hpe (by omega)
theorem splitNumber_l {σ : St} (L : Lay σ) {s p : Nat} (hs : s ≤ 400) (B : Byt (sI σ 100) s) (hp : p < s) : ∀ (j e fuel : Nat), e + j = s → p ≤ e → j < fuel → rnT fgB (sI σ 100) s p = rnT fgB (sI σ 100) s e →
    f7_splitNumber_p6 fuel σ 46 100 (nI p) (nI s) (lN (nmF (sI σ 100) p (e - p))) (nI e) = f7_splitNumber_p61 σ (nI p) (lN (nmF (sI σ 100) p (rnT fgB (sI σ 100) s p - p))) (nI (rnT fgB (sI σ 100) s p)) (if rnT fgB (sI σ 100) s p - p ≤ 4 then -3 else -2) 46 := by
  have fin : ∀ e, p ≤ e → e ≤ s → f7_splitNumber_p45 σ 46 (nI p) (lN (nmF (sI σ 100) p (e - p))) (nI e) = f7_splitNumber_p61 σ (nI p) (lN (nmF (sI σ 100) p (e - p))) (nI e) (if e - p ≤ 4 then -3 else -2) 46 := by
    intro e h1 h2
    unfold f7_splitNumber_p45
    rw [pk_sub h1]
    by_cases c : e - p ≤ 4
    · rw [if_pos (show nI (e - p) ≤ 4 from nI_le (b := 4) c (by decide)), if_pos c]
    · rw [if_neg (show ¬ nI (e - p) ≤ 4 from nI_ge (a := 4) (by omega) (by omega)), if_neg c]
  intro j
  induction j with
  | zero =>
    intro e fuel he hpe hf hr
    obtain ⟨f, rfl, -⟩ := suc_of hf
    have : e = s := by omega
    subst this
    rw [hr, rnT_s (Nat.le_refl _), f7_splitNumber_p6, if_neg (nI_nlt (by omega) (by omega))]
    exact fin e (by omega) (Nat.le_refl _)
  | succ j ih =>
    intro e fuel he hpe hf hr
    obtain ⟨f, rfl, hf2⟩ := suc_of hf
    obtain ⟨c, hc, hce⟩ := B e (by omega)
    rw [f7_splitNumber_p6, if_pos (nI_lt (by omega) (by omega)), gd_t (oL100 L), gd_t (inb_n (lL100 L) (by omega) (by decide)), ix_n (by omega), bd_s isFigure_s]
    by_cases h : fgB (sI σ 100 e) = true
    · have hb : 48 ≤ c ∧ c ≤ 57 := by rw [hce] at h; exact fg_byte h (by omega)
      have st : lN (nmF (sI σ 100) p (e - p)) * 10 + (sI σ 100 e - 48).toInt64 = lN (nmF (sI σ 100) p (e + 1 - p)) := by
        have hce' : sI σ 100 (p + (e - p)) = nI c := by rw [show p + (e - p) = e by omega]; exact hce
        rw [hce, nm_step hce' hb, show e - p + 1 = e + 1 - p by omega]
      rw [if_pos h, if_neg (by decide), lt_b, lt_b, st, nI_1]
      exact ih (e + 1) f (by omega) (by omega) (by omega) (hr.trans (rnT_y (by omega) h))
    · rw [if_neg h, if_pos rfl, hr, rnT_n h]
      exact fin e hpe (by omega)
