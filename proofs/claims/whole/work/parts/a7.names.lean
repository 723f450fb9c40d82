/-! NAMES: given and let -/
def knS (g : Nat → Int64) (w : Int64) : Nat → Nat → Int32
  | 0, _ => -1
  | j + 1, i => if g i = w then nI i else knS g w j (i + 1)
theorem knS_sp {g : Nat → Int64} {w : Int64} : ∀ j i, (knS g w j i = -1 ∧ ∀ q, i ≤ q → q < i + j → g q ≠ w) ∨ ∃ q, i ≤ q ∧ q < i + j ∧ knS g w j i = nI q ∧ g q = w ∧ ∀ r, i ≤ r → r < q → g r ≠ w := by
  intro j
  induction j with
  | zero => intro i; exact Or.inl ⟨rfl, fun q h1 h2 => by omega⟩
  | succ j ih =>
    intro i
    unfold knS
    by_cases h : g i = w
    · rw [if_pos h]; exact Or.inr ⟨i, by omega, by omega, rfl, h, fun r h1 h2 => by omega⟩
    · rw [if_neg h]
      rcases ih (i + 1) with ⟨h1, h2⟩ | ⟨q, h1, h2, h3, h4, h5⟩
      · refine Or.inl ⟨h1, fun q q1 q2 => ?_⟩
        by_cases e : q = i
        · rw [e]; exact h
        · exact h2 q (by omega) (by omega)
      · refine Or.inr ⟨q, by omega, by omega, h3, h4, fun r r1 r2 => ?_⟩
        by_cases e : r = i
        · rw [e]; exact h
        · exact h5 r (by omega) r2
theorem known_l {σ : St} (L : Lay σ) {l : Nat} (h9 : sI σ 46 9 = nI l) (hl : l ≤ 6) (w : Int64) : ∀ (j i fuel : Nat), i + j = 9 + l → j < fuel → f7_known_p2 fuel σ 46 w (nI i) = some (knS (sL σ 51) w j i, σ) := by
  have e9 : (9 : Int32) + nI l = nI (9 + l) := nI_add 9 l
  intro j
  induction j with
  | zero =>
    intro i fuel hi hf
    obtain ⟨f, rfl, -⟩ := suc_of hf
    rw [f7_known_p2, gd_t (oL46 L), h9, e9, if_neg (nI_nlt (by omega) (by omega))]
    rfl
  | succ j ih =>
    intro i fuel hi hf
    obtain ⟨f, rfl, hf2⟩ := suc_of hf
    rw [f7_known_p2, gd_t (oL46 L), h9, e9, if_pos (nI_lt (by omega) (by omega)), lt_b, rL46_4 L, gd_t nz_s, gd_t (oL51 L), lL51 L, if_pos (show nI i < Int32.ofNat 15 from nI_lt (by omega) (by decide)), gd_t (inb_n (lL51 L) (by omega) (by decide)), ix_n (by omega), knS]
    by_cases h : sL σ 51 i = w
    · rw [if_pos (lc_0.mpr h), if_pos h]
    · rw [if_neg (fun q => h (lc_0.mp q)), if_neg h, lt_b, nI_1]
      exact ih (i + 1) f (by omega) (by omega)
theorem known_t {σ : St} (L : Lay σ) {l : Nat} (h9 : sI σ 46 9 = nI l) (hl : l ≤ 6) (w : Int64) : f7_known σ 46 w = some (knS (sL σ 51) w (9 + l) 0, σ) :=
  known_l L h9 hl w (9 + l) 0 FU (by omega) (by unfold FU; omega)
/-- the class's names are the reference's -/
def NmR (σ ρ : St) (l : Nat) : Prop := (∀ i, i < 9 → sL σ 51 i = lN (pwS (13 + i))) ∧ ∀ i, i < l → ∃ z, z ≤ 8 ∧ sI ρ 133 i = nI z ∧ Wrd (sI ρ 132) (8 * i) z ∧ sL σ 51 (9 + i) = lN (pwF (sI ρ 132) (8 * i) z)
theorem pwS_b {id : Nat} (h : id < 22) (h3 : 3 ≤ id) : pwS id < 2 ^ 63 := pw_8 (strW h h3) (strOk id h h3).1
theorem letcmp_l {t : Nat → Int32} {s p n i z : Nat} {ρ : St} (K : St → Nat → Int32 → Int32 → Option (Int32 × St)) (hs : s ≤ 400) (L : Lay ρ) (T : Tpm t s ρ) (h37 : sI ρ 101 37 = nI p) (hi : i < 6) (hz : sI ρ 133 i = nI z) (z8 : z ≤ 8) (hn : n = z) (hp : p + n ≤ s) (W : Wrd t p n) (V : Wrd (sI ρ 132) (8 * i) z) : ∀ (j k fuel : Nat), k + j = z → j < fuel → (f12_name_p173 K fuel ρ 101 (-1) (nI i) 1 (nI k) = f12_name_p227 K ρ 101 (-1) (nI i) 1 ∧ ∀ q, k ≤ q → q < z → t (p + q) = sI ρ 132 (8 * i + q)) ∨ (f12_name_p173 K fuel ρ 101 (-1) (nI i) 1 (nI k) = f12_name_p227 K ρ 101 (-1) (nI i) 0 ∧ ¬ ∀ q, k ≤ q → q < z → t (p + q) = sI ρ 132 (8 * i + q)) := by
  have e8 : ∀ k, (8 : Int32) * nI i + nI k = nI (8 * i + k) := fun k => by
    have : (8 : Int32) * nI i = nI (8 * i) := pk_mul 8 i
    rw [this, nI_add]
  have zero : ∀ (k f : Nat), f12_name_p173 K (f + 1) ρ 101 (-1) (nI i) 0 (nI k) = f12_name_p227 K ρ 101 (-1) (nI i) 0 := by
    intro k f
    rw [f12_name_p173, gd_t (oL101 L), lt_b, rL101_46 L, gd_t nz_s, gd_t (oL133 L), gd_t (inb_n (lL133 L) hi (by decide)), if_pos rfl]
    by_cases c : nI k < sI ρ 133 (ix (nI i))
    · rw [if_pos c]
    · rw [if_neg c]
  intro j
  induction j with
  | zero =>
    intro k fuel hk hf
    obtain ⟨f, rfl, -⟩ := suc_of hf
    refine Or.inl ⟨?_, fun q q1 q2 => by omega⟩
    rw [f12_name_p173, gd_t (oL101 L), lt_b, rL101_46 L, gd_t nz_s, gd_t (oL133 L), gd_t (inb_n (lL133 L) hi (by decide)), ix_n (by omega), hz, if_neg (nI_nlt (by omega) (by omega))]
  | succ j ih =>
    intro k fuel hk hf
    obtain ⟨f, rfl, hf2⟩ := suc_of hf
    obtain ⟨c, c1, c2, c3⟩ := W k (by omega)
    obtain ⟨d, d1, d2, d3⟩ := V k (by omega)
    rw [f12_name_p173, gd_t (oL101 L), lt_b, rL101_46 L, gd_t nz_s, gd_t (oL133 L), gd_t (inb_n (lL133 L) hi (by decide)), ix_n (k := i) (by omega), hz, if_pos (nI_lt (by omega) (by omega)), if_neg (by decide), lt_b, rL101_34 L, gd_t nz_s, gd_t (oL131 L), h37, nI_add, gd_t (inb_n (lL131 L) (by omega) (by decide)), lt_b, rL101_45 L, gd_t nz_s, gd_t (oL132 L), e8, gd_t (inb_n (lL132 L) (by omega) (by decide)), ix_n (k := p + k) (by omega), ix_n (k := 8 * i + k) (by omega), T.2 _ (by omega), c3, sb_id c (by omega)]
    unfold f12_name_p220
    by_cases h : nI c = sI ρ 132 (8 * i + k)
    · rw [if_pos h, lt_b, nI_1]
      rcases ih (k + 1) f (by omega) (by omega) with ⟨w1, w2⟩ | ⟨w1, w2⟩
      · refine Or.inl ⟨w1, fun q q1 q2 => ?_⟩
        by_cases e : q = k
        · rw [e, c3]; exact h
        · exact w2 q (by omega) q2
      · exact Or.inr ⟨w1, fun w => w2 (fun q q1 q2 => w q (by omega) q2)⟩
    · rw [if_neg h, lt_b, nI_1]
      obtain ⟨f, rfl, -⟩ := suc_of (show 0 < f by omega)
      exact Or.inr ⟨zero (k + 1) f, fun w => h (by rw [← c3]; exact w k (Nat.le_refl _) (by omega))⟩
theorem name_l {t : Nat → Int32} {s p l : Nat} {σ ρ : St} (hs : s ≤ 400) (B : Byt t s) (L : Lay ρ) (T : Tpm t s ρ) (K : Tkm t s p ρ) (h3 : soF t s p = 3) (R : NmR σ ρ l) (hl : l ≤ 6) (h44 : sI ρ 101 44 = nI l) : ∀ (j i fuel : Nat), i + j = l → j + 1 < fuel → f12_name_p133 fuel ρ 101 (-1) (nI i) = some (knS (sL σ 51) (lN (wnF t s p)) j (9 + i), ρ) := by
  obtain ⟨c1, c2, c3, c4, c5, -, -, c8⟩ := tok_3 B h3
  have te := teF_sp (t := t) (show p ≤ s by omega)
  intro j
  induction j with
  | zero =>
    intro i fuel hi hf
    obtain ⟨f, rfl, -⟩ := suc_of hf
    rw [f12_name_p133, gd_t (oL101 L), h44, if_neg (nI_nlt (by omega) (by omega))]
    rfl
  | succ j ih =>
    intro i fuel hi hf
    obtain ⟨f, rfl, hf2⟩ := suc_of hf
    obtain ⟨z, z8, z1, z2, z3⟩ := R.2 i (by omega)
    have inj := pw_inj _ _ c5 z2
    have e0 : knS (sL σ 51) (lN (wnF t s p)) (j + 1) (9 + i) = if sL σ 51 (9 + i) = lN (wnF t s p) then nI (9 + i) else knS (sL σ 51) (lN (wnF t s p)) j (9 + i + 1) := rfl
    have yes : (teF t s p - p = z ∧ ∀ q, q < teF t s p - p → t (p + q) = sI ρ 132 (8 * i + q)) → f12_name_p227 (f12_name_p133 f) ρ 101 (-1) (nI i) 1 = some (knS (sL σ 51) (lN (wnF t s p)) (j + 1) (9 + i), ρ) := fun w => by
      have hw := inj.mpr w
      unfold f12_name_p227 f12_name_p236
      obtain ⟨f, rfl, -⟩ := suc_of (show 0 < f by omega)
      have e9 : (9 : Int32) + nI i = nI (9 + i) := nI_add 9 i
      rw [e0, if_pos (show sL σ 51 (9 + i) = lN (wnF t s p) by rw [z3]; exact congrArg lN hw.symm), if_neg (show ¬ (1 : Int32) = 0 by decide), lt_b, lt_b, nI_1, e9, f12_name_p133, gd_t (oL101 L), if_neg (nI_m1 (by omega))]
      by_cases q : nI (i + 1) < sI ρ 101 44
      · rw [if_pos q]
      · rw [if_neg q]
    have no : ¬ (teF t s p - p = z ∧ ∀ q, q < teF t s p - p → t (p + q) = sI ρ 132 (8 * i + q)) → f12_name_p227 (f12_name_p133 f) ρ 101 (-1) (nI i) 0 = some (knS (sL σ 51) (lN (wnF t s p)) (j + 1) (9 + i), ρ) := fun w => by
      unfold f12_name_p227 f12_name_p236
      rw [e0, if_neg (show ¬ sL σ 51 (9 + i) = lN (wnF t s p) from fun q => w (inj.mp (lN_inj (pw_8 z2 z8) c8 (by rw [← z3]; exact q)).symm)), if_pos rfl, lt_b, nI_1]
      exact ih (i + 1) f (by omega) (by omega)
    have e36 : sI ρ 101 36 - sI ρ 101 37 = nI (teF t s p - p) := by rw [K.2.1, K.1, pk_sub te.1]
    rw [f12_name_p133, gd_t (oL101 L), h44, if_pos (nI_lt (by omega) (by omega)), if_pos rfl, lt_b, rL101_46 L, gd_t nz_s, gd_t (oL133 L), gd_t (inb_n (lL133 L) (by omega) (by decide)), ix_n (k := i) (by omega), z1, e36]
    unfold f12_name_p169
    by_cases d : teF t s p - p = z
    · rw [if_pos (show nI (teF t s p - p) = nI z by rw [d])]
      rcases letcmp_l (f12_name_p133 f) hs L T K.1 (show i < 6 by omega) z1 z8 d (by omega) c5 z2 z 0 FU (by omega) (by unfold FU; omega) with ⟨w1, w2⟩ | ⟨w1, w2⟩
      · have w1' : f12_name_p173 (f12_name_p133 f) FU ρ 101 (-1) (nI i) 1 0 = _ := w1
        rw [w1']
        exact yes ⟨d, fun q hq => w2 q (Nat.zero_le _) (by omega)⟩
      · have w1' : f12_name_p173 (f12_name_p133 f) FU ρ 101 (-1) (nI i) 1 0 = _ := w1
        rw [w1']
        exact no (fun u => w2 (fun q _ hq => u.2 q (by omega)))
    · rw [if_neg (fun q => d ((nI_eq (by omega) (by omega)).mp q))]
      have zero : f12_name_p173 (f12_name_p133 f) FU ρ 101 (-1) (nI i) 0 0 = f12_name_p227 (f12_name_p133 f) ρ 101 (-1) (nI i) 0 := by
        unfold FU
        rw [f12_name_p173, gd_t (oL101 L), lt_b, rL101_46 L, gd_t nz_s, gd_t (oL133 L), gd_t (inb_n (lL133 L) (by omega) (by decide)), if_pos rfl]
        by_cases c : (0 : Int32) < sI ρ 133 (ix (nI i))
        · rw [if_pos c]
        · rw [if_neg c]
      rw [zero]
      exact no (fun u => d u.1)
theorem nameQ {ρ : St} (L : Lay ρ) {i : Nat} (hi : i < 9) : f12_name_p130 ρ 101 (nI i) = some (nI i, ρ) := by
  unfold f12_name_p130 FU
  rw [f12_name_p133, gd_t (oL101 L), if_neg (nI_m1 (by omega))]
  by_cases q : (0 : Int32) < sI ρ 101 44
  · rw [if_pos q]
  · rw [if_neg q]
theorem name_s {t : Nat → Int32} {s p l : Nat} {σ ρ : St} (hs : s ≤ 400) (B : Byt t s) (L : Lay ρ) (T : Tpm t s ρ) (K : Tkm t s p ρ) (h3 : soF t s p = 3) (R : NmR σ ρ l) (hl : l ≤ 6) (h44 : sI ρ 101 44 = nI l) : f12_name ρ 101 = some (knS (sL σ 51) (lN (wnF t s p)) (9 + l) 0, ρ) := by
  obtain ⟨c1, c2, c3, c4, c5, -, -, c8⟩ := tok_3 B h3
  have e : ∀ i, i < 9 → f12_isWord ρ 101 (13 + i) = some (if sL σ 51 i = lN (wnF t s p) then 1 else 0, ρ) := fun i hi => by
    rw [isWord_s hs B L T K (by omega) (by omega), R.1 i hi]
    by_cases g : wnF t s p = pwS (13 + i)
    · rw [if_pos ⟨h3, g⟩, if_pos (congrArg lN g.symm)]
    · rw [if_neg (fun u => g u.2), if_neg (fun u => g (lN_inj (pwS_b (by omega) (by omega)) c8 u).symm)]
  have fin : f12_name_p130 ρ 101 (-1) = some (knS (sL σ 51) (lN (wnF t s p)) l 9, ρ) := name_l hs B L T K h3 R hl h44 l 0 FU (by omega) (by unfold FU; omega)
  have ex : knS (sL σ 51) (lN (wnF t s p)) (9 + l) 0 = if sL σ 51 0 = lN (wnF t s p) then nI 0 else if sL σ 51 1 = lN (wnF t s p) then nI 1 else if sL σ 51 2 = lN (wnF t s p) then nI 2 else if sL σ 51 3 = lN (wnF t s p) then nI 3 else if sL σ 51 4 = lN (wnF t s p) then nI 4 else if sL σ 51 5 = lN (wnF t s p) then nI 5 else if sL σ 51 6 = lN (wnF t s p) then nI 6 else if sL σ 51 7 = lN (wnF t s p) then nI 7 else if sL σ 51 8 = lN (wnF t s p) then nI 8 else knS (sL σ 51) (lN (wnF t s p)) l 9 := by
    rw [show 9 + l = l + 1 + 1 + 1 + 1 + 1 + 1 + 1 + 1 + 1 by omega]
    rfl
  have q : ∀ i, i < 9 → f12_name_p130 ρ 101 (nI i) = some (nI i, ρ) := fun i hi => nameQ L hi
  rw [ex]
  unfold f12_name
  rw [gd_t (oL101 L), bd_s (e 0 (by decide)), ite_B, bd_s (e 1 (by decide)), ite_B, bd_s (e 2 (by decide)), ite_B, bd_s (e 3 (by decide)), ite_B, bd_s (e 4 (by decide)), ite_B, bd_s (e 5 (by decide)), ite_B, bd_s (e 6 (by decide)), ite_B, bd_s (e 7 (by decide)), ite_B, bd_s (e 8 (by decide)), ite_B, fin]
  by_cases h0 : sL σ 51 0 = lN (wnF t s p)
  · rw [if_pos h0, if_pos h0]; exact q 0 (by decide)
  rw [if_neg h0, if_neg h0]
  by_cases h1 : sL σ 51 1 = lN (wnF t s p)
  · rw [if_pos h1, if_pos h1]; exact q 1 (by decide)
  rw [if_neg h1, if_neg h1]
  by_cases h2 : sL σ 51 2 = lN (wnF t s p)
  · rw [if_pos h2, if_pos h2]; exact q 2 (by decide)
  rw [if_neg h2, if_neg h2]
  by_cases h3 : sL σ 51 3 = lN (wnF t s p)
  · rw [if_pos h3, if_pos h3]; exact q 3 (by decide)
  rw [if_neg h3, if_neg h3]
  by_cases h4 : sL σ 51 4 = lN (wnF t s p)
  · rw [if_pos h4, if_pos h4]; exact q 4 (by decide)
  rw [if_neg h4, if_neg h4]
  by_cases h5 : sL σ 51 5 = lN (wnF t s p)
  · rw [if_pos h5, if_pos h5]; exact q 5 (by decide)
  rw [if_neg h5, if_neg h5]
  by_cases h6 : sL σ 51 6 = lN (wnF t s p)
  · rw [if_pos h6, if_pos h6]; exact q 6 (by decide)
  rw [if_neg h6, if_neg h6]
  by_cases h7 : sL σ 51 7 = lN (wnF t s p)
  · rw [if_pos h7, if_pos h7]; exact q 7 (by decide)
  rw [if_neg h7, if_neg h7]
  by_cases h8 : sL σ 51 8 = lN (wnF t s p)
  · rw [if_pos h8, if_pos h8]; exact q 8 (by decide)
  rw [if_neg h8, if_neg h8]
