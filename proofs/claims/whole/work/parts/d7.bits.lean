/-! WHICH MILLS may be planned -/
theorem sh_r (B : Int32) {n : Nat} (h : n ≤ 6) : (B >>> (nI n &&& 31)).toInt = B.toInt / ((2 ^ n : Nat) : Int) := by
  have e : ((nI n &&& 31).toBitVec.smod 32).toNat = n := by
    rcases n with _ | _ | _ | _ | _ | _ | _ | n
    iterate 7 decide
    omega
  show (B >>> (nI n &&& 31)).toBitVec.toInt = B.toBitVec.toInt / _
  rw [Int32.toBitVec_shiftRight, BitVec.toInt_sshiftRight', e, Int.shiftRight_eq_div_pow]
theorem sh_l {n : Nat} (h : n ≤ 6) : (1 : Int32) <<< (nI n &&& 31) = nI (2 ^ n) := by
  rcases n with _ | _ | _ | _ | _ | _ | _ | n
  iterate 7 decide
  omega
theorem two_le {n : Nat} (h : n ≤ 6) : 1 ≤ 2 ^ n ∧ 2 ^ n ≤ 64 := by
  rcases n with _ | _ | _ | _ | _ | _ | _ | n
  iterate 7 decide
  omega
def bcF (x : Int32) : Int32 :=
  let y1 := x - (((x.toUInt32 >>> ((1 : Int32).toUInt32 &&& Int32.toUInt32 31)).toInt32) &&& (1431655765 : Int32))
  let y3 := (y1 &&& (858993459 : Int32)) + (((y1.toUInt32 >>> ((2 : Int32).toUInt32 &&& Int32.toUInt32 31)).toInt32) &&& (858993459 : Int32))
  let y5 := (y3 + ((y3.toUInt32 >>> ((4 : Int32).toUInt32 &&& Int32.toUInt32 31)).toInt32)) &&& (252645135 : Int32)
  let y7 := y5 + ((y5.toUInt32 >>> ((8 : Int32).toUInt32 &&& Int32.toUInt32 31)).toInt32)
  let y9 := y7 + ((y7.toUInt32 >>> ((16 : Int32).toUInt32 &&& Int32.toUInt32 31)).toInt32)
  y9 &&& 63
theorem bc_all : ∀ b, b < 64 → bcF (nI b) = nI (ctP (bitP (nI b)) 6) := by decide +kernel
theorem bit_all : ∀ b, b < 64 → ∀ n, n < 7 → b < 2 ^ n → ∀ m, m < 6 → n ≤ m → bitP (nI b) m = false := by decide +kernel
theorem bc_s {σ : St} {x : Int32} : fJ6_bitCount_0f7a4 σ x = some (bcF x, σ) := by
  unfold fJ6_bitCount_0f7a4 bcF
  rw [lt_b, lt_b, lt_b, lt_b, lt_b]
theorem ctP_n6 {q : Nat → Bool} : ∀ n, ctP q n ≤ n := by
  intro n
  induction n with
  | zero => exact Nat.le_refl _
  | succ n ih =>
    unfold ctP
    by_cases c : q n = true
    · rw [if_pos c]; omega
    · rw [if_neg c]; omega
/-- none of them is gone -/
def hvP (n : Nat) (B : Int32) (f : Nat → Int32) : Bool := allB (fun m => !(bitP B m) || decide (f m ≠ -2)) n
theorem hvP_t {n : Nat} {B : Int32} {f : Nat → Int32} : hvP n B f = true ↔ ∀ m, m < n → bitP B m = true → f m ≠ -2 := by
  unfold hvP
  rw [allB_t]
  constructor
  · intro h m hm c
    have := h m hm
    rw [c] at this
    simpa using this
  · intro h m hm
    by_cases c : bitP B m = true
    · rw [decide_eq_true (h m hm c), Bool.or_true]
    · rw [Bool.eq_false_iff.mpr c]; rfl
abbrev pkP (n : Nat) (B : Int32) (f : Nat → Int32) : Prop := ((0 < B ∧ B < nI (2 ^ n)) ∧ ctP (bitP B) n ≤ 3) ∧ hvP n B f = true
theorem can_l {σ : St} (L : Lay σ) {n : Nat} {B : Int32} (hn : sI σ 2 5 = nI n) (n6 : n ≤ 6) : ∀ (j m fuel : Nat), m + j = n → j < fuel → (∀ q, q < m → bitP B q = true → sI σ 6 q ≠ -2) → f8_canPlan_p33 fuel σ 2 B (nI m) = some (if hvP n B (sI σ 6) = true then 1 else 0, σ) := by
  intro j
  induction j with
  | zero =>
    intro m fuel hm hf al
    obtain ⟨f, rfl, -⟩ := suc_of hf
    have e : m = n := by omega
    subst e
    rw [f8_canPlan_p33, gd_t (oL2 L), hn, if_neg (nI_nlt (by omega) (by omega)), if_pos (hvP_t.mpr al)]
  | succ j ih =>
    intro m fuel hm hf al
    obtain ⟨f, rfl, -⟩ := suc_of hf
    rw [f8_canPlan_p33, gd_t (oL2 L), hn, if_pos (nI_lt (by omega) (by omega))]
    have step : (bitP B m = true → sI σ 6 m ≠ -2) → f8_canPlan_p63 (f8_canPlan_p33 f) σ 2 B (nI m) = some (if hvP n B (sI σ 6) = true then 1 else 0, σ) := fun w => by
      unfold f8_canPlan_p63
      rw [lt_b, nI_1]
      exact ih (m + 1) f (by omega) (by omega) (fun q hq c => by
        by_cases e : q = m
        · rw [e] at c ⊢; exact w c
        · exact al q (by omega) c)
    by_cases c : bitP B m = true
    · rw [if_pos (of_decide_eq_true c), lt_b, rL2_3 L, gd_t nz_s, gd_t (oL6 L), gd_t (inb_n (lL6 L) (by omega) (by decide)), ix_n (by omega)]
      by_cases d : sI σ 6 m = -2
      · rw [if_pos d, if_neg (fun w => hvP_t.mp w m (by omega) c d)]
      · rw [if_neg d]; exact step (fun _ => d)
    · rw [if_neg (fun w => c (decide_eq_true w))]
      exact step (fun w => absurd w c)
theorem can_s {σ : St} (L : Lay σ) {n : Nat} {B : Int32} (hn : sI σ 2 5 = nI n) (n6 : n ≤ 6) : f8_canPlan σ 2 B = some (if pkP n B (sI σ 6) then 1 else 0, σ) := by
  have tw := two_le n6
  unfold f8_canPlan
  rw [bd_s bc_s]
  by_cases c0 : B < 0
  · rw [if_pos c0, if_neg (fun w => by have := w.1.1.1; rw [t_lt] at this c0; omega)]
  · rw [if_neg c0, gd_t (oL2 L), hn, sh_l n6]
    by_cases c1 : B < nI (2 ^ n)
    · rw [if_pos c1]
      obtain ⟨b, hb, rfl⟩ := inN (lim := 2 ^ n) rfl (by omega) ⟨Int32.not_lt.mp c0, c1⟩
      have g : ∀ k, n ≤ k → k < 6 → ¬ bitP (nI b) k = true := fun k h1 h2 => by
        rw [bit_all b (by omega) n (by omega) hb k h2 h1]; decide
      have ct := ctP_gap (q := bitP (nI b)) n6 g
      have ct6 := ctP_n6 (q := bitP (nI b)) n
      rw [bc_all b (by omega), ct]
      by_cases c2 : ctP (bitP (nI b)) n = 0
      · have b0 : b = 0 := by
          have z : ∀ b, b < 64 → ctP (bitP (nI b)) 6 = 0 → b = 0 := by decide +kernel
          exact z b (by omega) (by rw [ct]; exact c2)
        rw [if_pos (show nI (ctP (bitP (nI b)) n) < 1 by rw [c2]; decide), if_neg (fun w => by have := w.1.1.1; rw [b0] at this; exact absurd this (by decide))]
      · have bp : 0 < b := by
          rcases Nat.eq_zero_or_pos b with e | e
          · rw [e] at c2
            have z : ctP (bitP (nI 0)) 6 = 0 := by decide +kernel
            rw [e] at ct
            rw [z] at ct
            exact absurd ct.symm c2
          · exact e
        rw [if_neg (show ¬ nI (ctP (bitP (nI b)) n) < 1 from nI_nlt (b := 1) (by omega) (by omega))]
        by_cases c3 : ctP (bitP (nI b)) n ≤ 3
        · rw [if_pos (show nI (ctP (bitP (nI b)) n) ≤ 3 from nI_le (b := 3) c3 (by decide))]
          have := can_l (B := nI b) L hn n6 n 0 FU (by omega) (by unfold FU; omega) (fun q hq => absurd hq (by omega))
          have this' : f8_canPlan_p33 FU σ 2 (nI b) 0 = some (if hvP n (nI b) (sI σ 6) = true then 1 else 0, σ) := this
          rw [this']
          by_cases c4 : hvP n (nI b) (sI σ 6) = true
          · rw [if_pos c4, if_pos ⟨⟨⟨nI_lt (a := 0) bp (by omega), c1⟩, c3⟩, c4⟩]
          · rw [if_neg c4, if_neg (fun w => c4 w.2)]
        · rw [if_neg (show ¬ nI (ctP (bitP (nI b)) n) ≤ 3 from nI_gt (b := 3) (by omega) (by omega)), if_neg (fun w => c3 w.1.2)]
    · rw [if_neg c1, if_neg (fun w => c1 w.1.1.2)]
theorem and1 (x : Int32) : x &&& 1 = 0 ∨ x &&& 1 = 1 := by
  have h : (x &&& 1).toBitVec = 0#32 ∨ (x &&& 1).toBitVec = 1#32 := by
    show x.toBitVec &&& 1#32 = 0#32 ∨ x.toBitVec &&& 1#32 = 1#32
    have e : (x.toBitVec &&& 1#32).toNat = x.toBitVec.toNat % 2 := by
      rw [BitVec.toNat_and]
      exact Nat.and_one_is_mod _
    rcases Nat.mod_two_eq_zero_or_one x.toBitVec.toNat with h | h
    · exact Or.inl (BitVec.eq_of_toNat_eq (by rw [e, h]; rfl))
    · exact Or.inr (BitVec.eq_of_toNat_eq (by rw [e, h]; rfl))
  rcases h with h | h
  · exact Or.inl (Int32.toBitVec_inj.mp h)
  · exact Or.inr (Int32.toBitVec_inj.mp h)
theorem are_l {ρ : St} (M : Lay ρ) {n : Nat} {B : Int32} (hn : sI ρ 101 5 = nI n) (n6 : n ≤ 6) : ∀ (j m fuel : Nat), m + j = n → j < fuel → (∀ q, q < m → bitP B q = true → sI ρ 109 q ≠ -2) → f12_arePlanned_p4 fuel ρ 101 B (nI (ctP (bitP B) m)) (nI m) = some (if pkP n B (sI ρ 109) then 1 else 0, ρ) := by
  have tw := two_le n6
  intro j
  induction j with
  | zero =>
    intro m fuel hm hf al
    obtain ⟨f, rfl, -⟩ := suc_of hf
    have e : m = n := by omega
    subst e
    have ct6 := ctP_n6 (q := bitP B) m
    rw [f12_arePlanned_p4, gd_t (oL101 M), hn, if_neg (nI_nlt (by omega) (by omega))]
    by_cases c0 : B ≤ 0
    · rw [if_pos c0, if_neg (fun w => by have := w.1.1.1; rw [t_lt] at this; rw [t_le] at c0; omega)]
    · have p0 : 0 < B.toInt := by
        have : ¬ B.toInt ≤ (0 : Int32).toInt := fun w => c0 (t_le.mpr w)
        have z : (0 : Int32).toInt = 0 := rfl
        omega
      have c0' : (0 : Int32) < B := t_lt.mpr p0
      have sr : (B >>> (nI m &&& 31)) = 0 ↔ B < nI (2 ^ m) := by
        rw [t_eq, sh_r B n6, t_lt, nI_toInt (by omega)]
        have z : (0 : Int32).toInt = 0 := rfl
        rw [z]
        have w0 : (0 : Int) < ((2 ^ m : Nat) : Int) := by omega
        constructor
        · intro h
          have := Int.lt_ediv_add_one_mul_self B.toInt w0
          rw [h] at this
          omega
        · intro h
          exact Int.ediv_eq_zero_of_lt (by omega) h
      rw [if_neg c0]
      by_cases c1 : B < nI (2 ^ m)
      · rw [if_pos (sr.mpr c1)]
        by_cases c3 : ctP (bitP B) m ≤ 3
        · rw [if_pos (show nI (ctP (bitP B) m) ≤ 3 from nI_le (b := 3) c3 (by decide)), if_pos ⟨⟨⟨c0', c1⟩, c3⟩, hvP_t.mpr al⟩]
        · rw [if_neg (show ¬ nI (ctP (bitP B) m) ≤ 3 from nI_gt (b := 3) (by omega) (by omega)), if_neg (fun w => c3 w.1.2)]
      · rw [if_neg (fun w => c1 (sr.mp w)), if_neg (fun w => c1 w.1.1.2)]
  | succ j ih =>
    intro m fuel hm hf al
    obtain ⟨f, rfl, -⟩ := suc_of hf
    have ct6 := ctP_n6 (q := bitP B) m
    rw [f12_arePlanned_p4, gd_t (oL101 M), hn, if_pos (nI_lt (by omega) (by omega))]
    have nx := fun w => ih (m + 1) f (by omega) (by omega) w
    have ext : (bitP B m = true → sI ρ 109 m ≠ -2) → ∀ q, q < m + 1 → bitP B q = true → sI ρ 109 q ≠ -2 := fun w q hq c => by
      by_cases e : q = m
      · rw [e] at c ⊢; exact w c
      · exact al q (by omega) c
    by_cases c : bitP B m = true
    · have c1 := of_decide_eq_true c
      rw [if_neg (by rw [c1]; decide), lt_b, rL101_9 M, gd_t nz_s, gd_t (oL109 M), gd_t (inb_n (lL109 M) (by omega) (by decide)), ix_n (by omega)]
      by_cases d : sI ρ 109 m = -2
      · rw [if_pos d, if_neg (fun w => hvP_t.mp w.2 m (by omega) c d)]
      · rw [if_neg d, lt_b, nI_1]
        unfold f12_arePlanned_p39
        rw [lt_b, nI_1]
        have := nx (ext (fun _ => d))
        rw [ctP_t c] at this
        exact this
    · have c1 : ¬ (B >>> (nI m &&& 31)) &&& 1 = 1 := fun w => c (decide_eq_true w)
      have c2 : (B >>> (nI m &&& 31)) &&& 1 = 0 := (and1 _).resolve_right c1
      rw [if_pos c2]
      unfold f12_arePlanned_p39
      rw [lt_b, nI_1]
      have := nx (ext (fun w => absurd w c))
      rw [ctP_n c] at this
      exact this
theorem hvP_cg {n : Nat} {B : Int32} {f g : Nat → Int32} (h : ∀ m, m < n → f m = g m) : (hvP n B f = true) = (hvP n B g = true) := by
  apply propext
  rw [hvP_t, hvP_t]
  exact ⟨fun w m hm c => by rw [← h m hm]; exact w m hm c, fun w m hm c => by rw [h m hm]; exact w m hm c⟩
theorem are_s {ρ : St} (M : Lay ρ) {n : Nat} {B : Int32} (hn : sI ρ 101 5 = nI n) (n6 : n ≤ 6) {f : Nat → Int32} (e : ∀ m, m < n → sI ρ 109 m = f m) : f12_arePlanned ρ 101 B = some (if pkP n B f then 1 else 0, ρ) := by
  unfold f12_arePlanned
  have := are_l (B := B) M hn n6 n 0 FU (by omega) (by unfold FU; omega) (fun q hq => absurd hq (by omega))
  have this' : f12_arePlanned_p4 FU ρ 101 B 0 0 = some (if pkP n B (sI ρ 109) then 1 else 0, ρ) := this
  rw [this']
  by_cases c : pkP n B f
  · have c' : pkP n B (sI ρ 109) := ⟨c.1, by rw [hvP_cg e]; exact c.2⟩
    rw [if_pos c, if_pos c']
  · have c' : ¬ pkP n B (sI ρ 109) := fun w => c ⟨w.1, by rw [← hvP_cg e]; exact w.2⟩
    rw [if_neg c, if_neg c']
