/-! THE CLASS LISTS all choices of a mill, and sums the tops -/
theorem list_out {δ : St} (Lδ : Lay δ) (V : VT δ) {n p q0 m l fr to : Nat} {tx : Nat → Nat} {h d k : Int32} {f0 : Nat → Int32} {my : Nat → Nat → Bool} (n6 : n ≤ 6) (g : gXc δ tx) (gk : gK δ p q0) (t11 : to ≤ 11) (hft : fr ≤ to) (t3 : to ≤ fr + 3) (hn : sI δ 2 5 = nI n) (h14 : sI δ 78 14 = h) (hm : m < n) (hl : l < 3) (fm : f0 m = -1)
    (hmy : ∀ b, b < 72 → (my m b = true ↔ ¬ dpF (sI δ 3 b) h < sI δ (29 + m) 0 ∧ stdF δ tx p m b d k &&& 3 = 0)) :
    ∀ (j lane fuel : Nat) (σ : St), lane + j = 6 → j < fuel → Fr (Wlc l) δ σ → (∀ q, q < n → sI σ 92 q = f0 q) → rowC δ n h f0 (fun b => caF n fr to my m b f0) m l σ (12 * lane) →
      ∃ σ', f6_listChoices_p14 fuel σ 78 (nI l) d k (nI fr) (nI to) (nI m) (nI (ctP (fun b => caF n fr to my m b f0) (12 * lane))) (nI lane) = some ((), σ') ∧ Fr (Wlc l) δ σ' ∧ (∀ q, q < n → sI σ' 92 q = f0 q) ∧ rowC δ n h f0 (fun b => caF n fr to my m b f0) m l σ' 72 ∧
        sI σ' (82 + l) (ctP (fun b => caF n fr to my m b f0) 72) = -1 ∧ sI σ' (87 + l) (ctP (fun b => caF n fr to my m b f0) 72) = 0 ∧ sI σ' 85 l = nI (ctP (fun b => caF n fr to my m b f0) 72 + 1) := by
  have c24 : ctP (fun b => caF n fr to my m b f0) 72 ≤ 24 := by
    refine Nat.le_trans (ctP_le (r := fun b => decide (fr ≤ b % 12 ∧ b % 12 ≤ to)) (fun k w => ?_) 72) (ctP_24 fr (by omega) to (by omega) t3)
    unfold caF at w
    simp only [Bool.and_eq_true] at w
    exact w.1
  have out : ∀ b, ¬ (fr ≤ b % 12 ∧ b % 12 ≤ to) → ¬ (fun b => caF n fr to my m b f0) b = true := fun b q w => q (by
    dsimp only at w
    unfold caF at w
    simp only [Bool.and_eq_true, decide_eq_true_eq] at w
    exact w.1)
  intro j
  induction j with
  | zero =>
    intro lane fuel σ hla hf F tr ro
    obtain ⟨fu, rfl, -⟩ := suc_of hf
    have e : lane = 6 := by omega
    subst e
    have L := Lay_Fr F Lδ
    obtain ⟨lc1, lc2, lc3, lc4, lc5, lc6⟩ := lay_ch L hl
    have e72 : 12 * 6 = 72 := rfl
    rw [e72] at ro ⊢
    generalize hc : ctP (fun b => caF n fr to my m b f0) 72 = c at *
    have L1 : Lay (wI σ (82 + l) c (-1)) := Lay_wI L
    have L2 : Lay (wI (wI σ (82 + l) c (-1)) (87 + l) c 0) := Lay_wI L1
    have h86 : sR (wI σ (82 + l) c (-1)) 86 l = 87 + l := lc2
    have od : ob (wI σ (82 + l) c (-1)) (87 + l) 14 = true := lc4
    have ld : (sK (wI σ (82 + l) c (-1)) (87 + l)).2 = 25 := lc6
    have rd : ∀ x q, sI (wI (wI (wI σ (82 + l) c (-1)) (87 + l) c 0) 85 l (nI (c + 1))) x q = if x = 85 ∧ q = l then nI (c + 1) else if x = 87 + l ∧ q = c then 0 else if x = 82 + l ∧ q = c then -1 else sI σ x q := fun x q => by rw [sI_wI, sI_wI, sI_wI]
    refine ⟨wI (wI (wI σ (82 + l) c (-1)) (87 + l) c 0) 85 l (nI (c + 1)), ?_, Fr_wI (Fr_wI (Fr_wI F (Or.inl (Or.inr (Or.inr (Or.inl rfl))))) (Or.inl (Or.inr (Or.inr (Or.inr (Or.inl rfl)))))) (Or.inl (Or.inr (Or.inr (Or.inr (Or.inr ⟨rfl, rfl⟩))))), fun q hq => ?_, fun b hb cb => ?_, ?_, ?_, ?_⟩
    · rw [f6_listChoices_p14, if_neg (by decide), gd_t (oL78 L), lt_b, rL78_5 L, gd_t nz_s, gd_t (oL81 L), gd_t (inb_n (lL81 L) hl (by decide)), lt_b, ix_n (k := l) (by omega), lc1, gd_t (nz_t (by omega)), gd_t lc3, gd_t (inb_n lc5 (by omega) (by decide)), lt_b, ix_n (k := c) (by omega), lt_b, rL78_7 L1, gd_t nz_s, gd_t (oL86 L1), gd_t (inb_n (lL86 L1) hl (by decide)), lt_b, h86, gd_t (nz_t (by omega)), gd_t od, gd_t (inb_n ld (by omega) (by decide)), lt_b, lt_b, rL78_6 L2, gd_t nz_s, gd_t (oL85 L2), gd_t (inb_n (lL85 L2) hl (by decide)), lt_b, nI_1]
    · rw [rd, if_neg (by omega), if_neg (by omega), if_neg (by omega)]; exact tr q hq
    · have lt := ctP_lt (q := fun b => caF n fr to my m b f0) hb cb
      rw [hc] at lt
      rw [rd, rd, if_neg (by omega), if_neg (by omega), if_neg (by omega), if_neg (by omega), if_neg (by omega), if_neg (by omega)]
      exact ro b hb cb
    · rw [rd, if_neg (by omega), if_neg (by omega), if_pos ⟨rfl, rfl⟩]
    · rw [rd, if_neg (by omega), if_pos ⟨rfl, rfl⟩]
    · rw [rd, if_pos ⟨rfl, rfl⟩]
  | succ j ih =>
    intro lane fuel σ hla hf F tr ro
    obtain ⟨fu, rfl, -⟩ := suc_of hf
    have g1 : ∀ q, 12 * lane ≤ q → q < 12 * lane + fr → ¬ (fun b => caF n fr to my m b f0) q = true := fun q h1 h2 => out q (by omega)
    have g2 : ∀ q, 12 * lane + to + 1 ≤ q → q < 12 * (lane + 1) → ¬ (fun b => caF n fr to my m b f0) q = true := fun q h1 h2 => out q (by omega)
    have e1 := ctP_gap (q := fun b => caF n fr to my m b f0) (show 12 * lane ≤ 12 * lane + fr by omega) g1
    have e2 := ctP_gap (q := fun b => caF n fr to my m b f0) (show 12 * lane + to + 1 ≤ 12 * (lane + 1) by omega) g2
    obtain ⟨σ1, a1, a2, a3, a4⟩ := list_in Lδ V n6 g gk t11 hft t3 hn h14 hm hl (lane := lane) (by omega) fm hmy (f6_listChoices_p14 fu) (to + 1 - fr) fr FU σ (by omega) (by unfold FU; omega) (Nat.le_refl _) F tr (rowC_gap g1 ro)
    obtain ⟨σ', b1, b2⟩ := ih (lane + 1) fu σ1 (by omega) (by omega) a2 a3 (rowC_gap g2 a4)
    refine ⟨σ', ?_, b2⟩
    rw [f6_listChoices_p14, if_pos (show nI lane < 6 from nI_lt (b := 6) (by omega) (by decide)), ← e1, a1, ← e2]
    exact b1
theorem list_s {δ : St} (Lδ : Lay δ) (V : VT δ) {n p q0 m l fr to : Nat} {tx : Nat → Nat} {h d k : Int32} {f0 : Nat → Int32} {my : Nat → Nat → Bool} (n6 : n ≤ 6) (g : gXc δ tx) (gk : gK δ p q0) (t11 : to ≤ 11) (hft : fr ≤ to) (t3 : to ≤ fr + 3) (hn : sI δ 2 5 = nI n) (h14 : sI δ 78 14 = h) (hm : m < n) (hl : l < 3) (fm : f0 m = -1)
    (hmy : ∀ b, b < 72 → (my m b = true ↔ ¬ dpF (sI δ 3 b) h < sI δ (29 + m) 0 ∧ stdF δ tx p m b d k &&& 3 = 0)) (h80 : sI δ 80 l = nI m) (tr : ∀ q, q < n → sI δ 92 q = f0 q) :
    ∃ σ', f6_listChoices δ 78 (nI l) d k (nI fr) (nI to) = some ((), σ') ∧ Fr (Wlc l) δ σ' ∧ (∀ q, q < n → sI σ' 92 q = f0 q) ∧ rowC δ n h f0 (fun b => caF n fr to my m b f0) m l σ' 72 ∧
        sI σ' (82 + l) (ctP (fun b => caF n fr to my m b f0) 72) = -1 ∧ sI σ' (87 + l) (ctP (fun b => caF n fr to my m b f0) 72) = 0 ∧ sI σ' 85 l = nI (ctP (fun b => caF n fr to my m b f0) 72 + 1) := by
  obtain ⟨σ', a1, a2⟩ := list_out Lδ V n6 g gk t11 hft t3 hn h14 hm hl fm hmy 6 0 FU δ (by omega) (by unfold FU; omega) Fr_rf tr (fun b hb => absurd hb (by omega))
  refine ⟨σ', ?_, a2⟩
  unfold f6_listChoices
  rw [gd_t (oL78 Lδ), lt_b, rL78_4 Lδ, gd_t nz_s, gd_t (oL80 Lδ), gd_t (inb_n (lL80 Lδ) hl (by decide)), ix_n (k := l) (by omega), h80, lt_b]
  exact a1
def Wtp (x k : Nat) : Prop := x = 90
theorem top_in {σ : St} (L : Lay σ) {l w : Nat} (hl : l < 3) {ch : Nat → Bool} {ct : Nat → Int32} (K : St → Nat → Int32 → Int32 → Option (Unit × St)) (v1 : Int32) (h12 : sI σ 78 12 = nI w) (hw : l < w) (w3 : w ≤ 3) (c24 : ctP ch 72 ≤ 24) (h85 : sI σ 85 l = nI (ctP ch 72 + 1)) (h87 : ∀ b, b < 72 → ch b = true → sI σ (87 + l) (ctP ch b) = ct b) (hz : sI σ (87 + l) (ctP ch 72) = 0) :
    ∀ (j b fuel : Nat) (a : Int32), b + j = 72 → j + 1 < fuel → f6_sumTops_p20 K fuel σ 78 v1 (nI l) a (nI (ctP ch b)) = f6_sumTops_p59 K σ 78 v1 (nI l) (mxI (fbF (fun b a => if ch b = true then mxI a (ct b) else a) j b a) 0) := by
  obtain ⟨lc1, lc2, lc3, lc4, lc5, lc6⟩ := lay_ch L hl
  have step : ∀ (fu c : Nat) (a t : Int32), c ≤ ctP ch 72 → sI σ (87 + l) c = t → f6_sumTops_p20 K (fu + 1) σ 78 v1 (nI l) a (nI c) = f6_sumTops_p20 K fu σ 78 v1 (nI l) (mxI a t) (nI (c + 1)) := fun fu c a t hc ht => by
    rw [f6_sumTops_p20, gd_t (oL78 L), h12, if_pos (nI_lt hw (by omega)), lt_b, rL78_6 L, gd_t nz_s, gd_t (oL85 L), gd_t (inb_n (lL85 L) hl (by decide)), ix_n (k := l) (by omega), h85, if_pos (nI_lt (by omega) (by omega)), lt_b, rL78_7 L, gd_t nz_s, gd_t (oL86 L), gd_t (inb_n (lL86 L) hl (by decide)), lt_b, lc2, gd_t (nz_t (by omega)), gd_t lc4, gd_t (inb_n lc6 (by omega) (by decide)), ix_n (k := c) (by omega), ht, bd_s max_s, lt_b, nI_1]
    rfl
  intro j
  induction j with
  | zero =>
    intro b fuel a hb hf
    have e : b = 72 := by omega
    subst e
    obtain ⟨f1, rfl, -⟩ := suc_of (show 0 < fuel by omega)
    obtain ⟨f2, rfl, -⟩ := suc_of (show 0 < f1 by omega)
    rw [step (f2 + 1) _ a 0 (Nat.le_refl _) hz, f6_sumTops_p20, gd_t (oL78 L), h12, if_pos (nI_lt hw (by omega)), lt_b, rL78_6 L, gd_t nz_s, gd_t (oL85 L), gd_t (inb_n (lL85 L) hl (by decide)), ix_n (k := l) (by omega), h85, if_neg (nI_nlt (Nat.le_refl _) (by omega))]
    rfl
  | succ j ih =>
    intro b fuel a hb hf
    unfold fbF
    by_cases c : ch b = true
    · obtain ⟨f1, rfl, -⟩ := suc_of (show 0 < fuel by omega)
      have lt := ctP_lt (q := ch) (show b < 72 by omega) c
      rw [step f1 _ a _ (by omega) (h87 b (by omega) c), ← ctP_t c, if_pos c]
      exact ih (b + 1) f1 _ (by omega) (by omega)
    · rw [if_neg c, ← ctP_n c]
      exact ih (b + 1) fuel a (by omega) (by omega)
