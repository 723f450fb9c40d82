/-! FEED, END, PLACE -/
theorem by8 (a : Int32) : ∀ s : Int32, s = 24 ∨ s = 16 ∨ s = 8 ∨ s = 0 → ((a.toUInt32 >>> s.toUInt32).toInt32 &&& 255).toInt8 = (a >>> s).toInt8 := by
  intro s hs
  rcases hs with rfl | rfl | rfl | rfl
  · apply Int8.toBitVec_inj.mp
    ext i hi
    simp [BitVec.getLsbD_sshiftRight]
    have h8 : i = 0 ∨ i = 1 ∨ i = 2 ∨ i = 3 ∨ i = 4 ∨ i = 5 ∨ i = 6 ∨ i = 7 := by omega
    rcases h8 with rfl | rfl | rfl | rfl | rfl | rfl | rfl | rfl <;> simp [BitVec.getElem_signExtend, BitVec.getLsbD_sshiftRight, BitVec.getElem_sshiftRight]
  · apply Int8.toBitVec_inj.mp
    ext i hi
    simp [BitVec.getLsbD_sshiftRight]
    have h8 : i = 0 ∨ i = 1 ∨ i = 2 ∨ i = 3 ∨ i = 4 ∨ i = 5 ∨ i = 6 ∨ i = 7 := by omega
    rcases h8 with rfl | rfl | rfl | rfl | rfl | rfl | rfl | rfl <;> simp [BitVec.getElem_signExtend, BitVec.getLsbD_sshiftRight, BitVec.getElem_sshiftRight]
  · apply Int8.toBitVec_inj.mp
    ext i hi
    simp [BitVec.getLsbD_sshiftRight]
    have h8 : i = 0 ∨ i = 1 ∨ i = 2 ∨ i = 3 ∨ i = 4 ∨ i = 5 ∨ i = 6 ∨ i = 7 := by omega
    rcases h8 with rfl | rfl | rfl | rfl | rfl | rfl | rfl | rfl <;> simp [BitVec.getElem_signExtend, BitVec.getLsbD_sshiftRight, BitVec.getElem_sshiftRight]
  · apply Int8.toBitVec_inj.mp
    ext i hi
    simp [BitVec.getLsbD_sshiftRight]
    have h8 : i = 0 ∨ i = 1 ∨ i = 2 ∨ i = 3 ∨ i = 4 ∨ i = 5 ∨ i = 6 ∨ i = 7 := by omega
    rcases h8 with rfl | rfl | rfl | rfl | rfl | rfl | rfl | rfl <;> simp [BitVec.getElem_signExtend, BitVec.getLsbD_sshiftRight, BitVec.getElem_sshiftRight]

def sbF (c : Int32) : Int32 := c.toInt8.toInt32
theorem nar_y (z : Int32) : vp_nar .byte z.toInt8.toInt32 = sbF z := by
  unfold vp_nar
  rw [pk_nb]
  rfl
theorem u255 (x : Int32) : ∃ c, c < 256 ∧ x &&& 255 = nI c := pk_andE x (m := 255) 8 (by decide)
/-- the byte of a number at a shift, as the class keeps it; as the reference does -/
def ybF (a : Int32) (q : Nat) : Int32 := (a.toUInt32 >>> ((nI q).toUInt32 &&& Int32.toUInt32 31)).toInt32 &&& 255
def zbF (a : Int32) (q : Nat) : Int32 := (a >>> (nI q &&& 31)).toInt8.toInt32
theorem yz (a : Int32) {r : Nat} (hr : r < 4) : zbF a (8 * (3 - r)) = sbF (ybF a (8 * (3 - r))) := by
  unfold zbF ybF sbF
  have h : r = 0 ∨ r = 1 ∨ r = 2 ∨ r = 3 := by omega
  rcases h with rfl | rfl | rfl | rfl
  · rw [show (nI (8 * (3 - 0))).toUInt32 &&& Int32.toUInt32 31 = (24 : Int32).toUInt32 from by decide, by8 a 24 (by decide)]; rfl
  · rw [show (nI (8 * (3 - 1))).toUInt32 &&& Int32.toUInt32 31 = (16 : Int32).toUInt32 from by decide, by8 a 16 (by decide)]; rfl
  · rw [show (nI (8 * (3 - 2))).toUInt32 &&& Int32.toUInt32 31 = (8 : Int32).toUInt32 from by decide, by8 a 8 (by decide)]; rfl
  · rw [show (nI (8 * (3 - 3))).toUInt32 &&& Int32.toUInt32 31 = (0 : Int32).toUInt32 from by decide, by8 a 0 (by decide)]; rfl
def Wfc (a k : Nat) : Prop := a = 100 ∨ a = 1 ∧ k = 7
theorem ab_l (a : Int32) : ∀ (j fuel : Nat) (σ : St) (s : Nat), Lay σ → j < fuel → j ≤ 4 → sI σ 1 7 = nI s → s + j ≤ 400 →
    ∃ τ, f11_addBytes_p3 fuel σ 1 a (nI (8 * j) - 8) = some ((), τ) ∧ Fr Wfc σ τ ∧ sI τ 1 7 = nI (s + j) ∧ (∀ i, i < s → sI τ 100 i = sI σ 100 i) ∧ ∀ t, t < j → sI τ 100 (s + t) = ybF a (8 * (j - 1 - t)) := by
  intro j
  induction j with
  | zero =>
    intro fuel σ s L hf _ hs _
    obtain ⟨f, rfl, -⟩ := suc_of hf
    refine ⟨σ, ?_, Fr_rf, hs, fun _ _ => rfl, fun t ht => absurd ht (by omega)⟩
    rw [f11_addBytes_p3, if_pos (by decide)]
  | succ j ih =>
    intro fuel σ s L hf hj hs hl
    obtain ⟨f, rfl, hf2⟩ := suc_of hf
    have e8 : nI (8 * (j + 1)) - 8 = nI (8 * j) := by
      have : nI (8 * (j + 1)) = nI (8 * j) + nI 8 := by rw [nI_add]; rfl
      rw [this]
      show nI (8 * j) + 8 - 8 = _
      rw [Int32.add_sub_cancel]
    have em : nI (8 * j) + -8 = nI (8 * j) - 8 := (Int32.sub_eq_add_neg _ 8).symm
    obtain ⟨τ, q1, q2, q3, q4, q5⟩ := ih f (wI (wI σ 100 s (ybF a (8 * j))) 1 7 (nI (s + 1))) (s + 1) (Lay_wI (Lay_wI L)) (by omega) (by omega) (by rw [sI_w1]) (by omega)
    refine ⟨τ, ?_, Fr_tr (Fr_wI (Fr_wI Fr_rf (Or.inl (Or.inl rfl))) (Or.inl (Or.inr ⟨rfl, rfl⟩))) q2, by rw [q3, show s + 1 + j = s + (j + 1) by omega], fun i hi => ?_, fun t ht => ?_⟩
    · rw [f11_addBytes_p3, e8, if_neg (nI_pos (by omega)), gd_t (oL1 L), hs, if_pos (show nI s < 400 from nI_lt (b := 400) (by omega) (by decide)), lt_b, rL1_6 L, gd_t nz_s, gd_t (oL100 L), gd_t (inb_n (lL100 L) (by omega) (by decide)), lt_b, lt_b, ix_n (by omega), sI_wo (b := 1) (by decide), hs, nI_1, lt_b, em]
      exact q1
    · rw [q4 i (by omega), sI_wo (by decide), sI_wk (by omega)]
    · by_cases c : t = 0
      · rw [c, q4 (s + 0) (by omega), sI_wo (by decide), Nat.add_zero, sI_w1, show j + 1 - 1 - 0 = j by omega]
      · have := q5 (t - 1) (by omega)
        rw [show s + 1 + (t - 1) = s + t by omega] at this
        rw [this, show j - 1 - (t - 1) = j + 1 - 1 - t by omega]
theorem addBytes_s {σ : St} (L : Lay σ) (a : Int32) {s : Nat} (hs : sI σ 1 7 = nI s) (hl : s + 4 ≤ 400) :
    ∃ τ, f11_addBytes σ 1 a = some ((), τ) ∧ Fr Wfc σ τ ∧ sI τ 1 7 = nI (s + 4) ∧ (∀ i, i < s → sI τ 100 i = sI σ 100 i) ∧ ∀ t, t < 4 → sI τ 100 (s + t) = ybF a (8 * (3 - t)) := by
  obtain ⟨τ, q1, q2, q3, q4, q5⟩ := ab_l a 4 FU σ s L (by unfold FU; omega) (by omega) hs hl
  exact ⟨τ, q1, q2, q3, q4, fun t ht => q5 t ht⟩
def pkF (a b c d e : Int32) (k : Nat) : Int32 := if k < 4 then a else if k < 8 then b else if k < 12 then c else if k < 16 then d else e
def Wfm (a k : Nat) : Prop := a = 131 ∨ a = 101 ∧ k = 35
theorem fd_l (a b c d e : Int32) (s : Nat) (hs2 : s + 20 ≤ 400) : ∀ (j fuel k : Nat) (σ : St), Lay σ → k + j = 20 → j < fuel → sI σ 101 35 = nI (s + k) →
    ∃ τ, f12_feed_p23 fuel σ 101 a b c d e (nI k) = some (nI (s + 20), τ) ∧ Fr Wfm σ τ ∧ sI τ 101 35 = nI (s + 20) ∧ (∀ i, i < s + k → sI τ 131 i = sI σ 131 i) ∧ ∀ t, k ≤ t → t < 20 → sI τ 131 (s + t) = sbF (ybF (pkF a b c d e t) (8 * (3 - t % 4))) := by
  intro j
  induction j with
  | zero =>
    intro fuel k σ L hk hf hs
    obtain ⟨f, rfl, -⟩ := suc_of hf
    have : k = 20 := by omega
    subst this
    refine ⟨σ, ?_, Fr_rf, hs, fun _ _ => rfl, fun t h1 h2 => absurd h2 (by omega)⟩
    rw [f12_feed_p23, if_neg (by decide), gd_t (oL101 L), hs]
  | succ j ih =>
    intro fuel k σ L hk hf hs
    obtain ⟨f, rfl, hf2⟩ := suc_of hf
    have esh : (24 : Int32) - 8 * (nI k - nI k / 4 * 4) = nI (8 * (3 - k % 4)) := by
      have e1 : nI k - nI k / 4 * 4 = nI (k % 4) := pk_rem (a := k) (d := 4) (by omega) (by decide) (by decide)
      rw [e1]
      have : k % 4 < 4 := Nat.mod_lt _ (by decide)
      have h : k % 4 = 0 ∨ k % 4 = 1 ∨ k % 4 = 2 ∨ k % 4 = 3 := by omega
      rcases h with h | h | h | h <;> rw [h] <;> rfl
    obtain ⟨τ, q1, q2, q3, q4, q5⟩ := ih f (k + 1) (wI (wI σ 131 (s + k) (sbF (ybF (pkF a b c d e k) (8 * (3 - k % 4))))) 101 35 (nI (s + k + 1))) (Lay_wI (Lay_wI L)) (by omega) (by omega) (by rw [sI_w1]; rfl)
    have st : f12_feed_p76 (f12_feed_p23 f) σ 101 a b c d e (nI k) (pkF a b c d e k) = some (nI (s + 20), τ) := by
      unfold f12_feed_p76
      have ez : vp_nar .byte (pkF a b c d e k >>> (nI (8 * (3 - k % 4)) &&& 31)).toInt8.toInt32 = sbF (ybF (pkF a b c d e k) (8 * (3 - k % 4))) := by
        rw [nar_y, ← yz _ (Nat.mod_lt _ (by decide))]
        rfl
      rw [gd_t (oL101 L), lt_b, rL101_34 L, gd_t nz_s, gd_t (oL131 L), hs, gd_t (inb_n (lL131 L) (by omega) (by decide)), esh, ez, lt_b, lt_b, lt_b, ix_n (by omega), sI_wo (b := 101) (by decide), hs, nI_1, nI_1]
      exact q1
    refine ⟨τ, ?_, Fr_tr (Fr_wI (Fr_wI Fr_rf (Or.inl (Or.inl rfl))) (Or.inl (Or.inr ⟨rfl, rfl⟩))) q2, q3, fun i hi => ?_, fun t h1 h2 => ?_⟩
    · rw [f12_feed_p23, if_pos (show nI k < 20 from nI_lt (b := 20) (by omega) (by decide))]
      have i4 : nI k < 4 ↔ k < 4 := nI_ltI (b := 4) (by omega) (by decide)
      have i8 : nI k < 8 ↔ k < 8 := nI_ltI (b := 8) (by omega) (by decide)
      have i12 : nI k < 12 ↔ k < 12 := nI_ltI (b := 12) (by omega) (by decide)
      have i16 : nI k < 16 ↔ k < 16 := nI_ltI (b := 16) (by omega) (by decide)
      simp only [i4, i8, i12, i16]
      unfold pkF at st
      by_cases c1 : k < 4
      · rw [if_pos c1] at st ⊢; exact st
      · rw [if_neg c1] at st ⊢
        by_cases c2 : k < 8
        · rw [if_pos c2] at st ⊢; exact st
        · rw [if_neg c2] at st ⊢
          by_cases c3 : k < 12
          · rw [if_pos c3] at st ⊢; exact st
          · rw [if_neg c3] at st ⊢
            by_cases c4 : k < 16
            · rw [if_pos c4] at st ⊢; exact st
            · rw [if_neg c4] at st ⊢; exact st
    · rw [q4 i (by omega), sI_wo (by decide), sI_wk (by omega)]
    · by_cases c : t = k
      · rw [c, q4 (s + k) (by omega), sI_wo (by decide), sI_w1]
      · exact q5 t (by omega) h2
