/-! THE CLASS SPLITS, THE REFERENCE GOES ON TO THE NEXT TOKEN -/
theorem lt_sp {x : Int32} (h : ltB x = true) : ¬ spB x = true := by
  intro q
  rcases of_decide_eq_true q with rfl | rfl
  · exact absurd h (by decide)
  · exact absurd h (by decide)
theorem fg_sp {x : Int32} (h : fgB x = true) : ¬ spB x = true := by
  intro q
  rcases of_decide_eq_true q with rfl | rfl
  · exact absurd h (by decide)
  · exact absurd h (by decide)
theorem Tks_Fr {t : Nat → Int32} {s n : Nat} {σ σ' : St} (h : Tks t s n σ) (e1 : ∀ k, sI σ' 47 k = sI σ 47 k) (e2 : ∀ k, sI σ' 48 k = sI σ 48 k) (e3 : ∀ k, sL σ' 49 k = sL σ 49 k) : Tks t s n σ' := fun k hk => by
  rw [e1, e2, e3]; exact h k hk
theorem tk_Fr {σ : St} {n : Nat} {kd pl : Int32} {v : Int64} {x : Nat} : Fr Wtk σ (wI (wL (wI (wI σ 47 n kd) 48 n pl) 49 n v) 46 6 (nI x)) := by
  refine Fr_wI (Fr_wL (Fr_wI (Fr_wI Fr_rf ?_) ?_) ?_) ?_ <;> exact Or.inl (by unfold Wtk; omega)
theorem split_l {t : Nat → Int32} {s : Nat} (hs : s ≤ 400) (B : Byt t s) : ∀ (j i k n fuel : Nat) (σ : St), s - i ≤ j → i ≤ s → j < fuel → Lay σ → gP σ → sI σ 100 = t → sI σ 46 6 = nI k → Tks t s k σ → rnT spB t s i = tpF t s k → n ≤ i → k ≤ i → (∀ q, q < k → tpF t s q < s) →
    ∃ σ' N, f7_split_p10 fuel σ 46 100 (nI s) (nI i) (nI n) = some ((), σ') ∧ sI σ' 46 6 = nI (N + 1) ∧ N ≤ 400 ∧ Tks t s (N + 1) σ' ∧ tpF t s N = s ∧ (∀ q, q < N → tpF t s q < s) ∧ Fr Wtk σ σ' := by
  have fin : ∀ (k : Nat) (σ : St), Lay σ → sI σ 46 6 = nI k → Tks t s k σ → tpF t s k = s → k ≤ 400 → (∀ q, q < k → tpF t s q < s) →
      ∃ σ' N, f7_split_p97 σ 46 (nI s) = some ((), σ') ∧ sI σ' 46 6 = nI (N + 1) ∧ N ≤ 400 ∧ Tks t s (N + 1) σ' ∧ tpF t s N = s ∧ (∀ q, q < N → tpF t s q < s) ∧ Fr Wtk σ σ' := by
    intro k σ L h6 T he hk hlt
    refine ⟨_, k, ?_, sI_w1 _ _ _ _, hk, Tks_add T (kd := -1) (pl := nI s) (v := 0) ?_ (by rw [he]) ?_, he, hlt, tk_Fr⟩
    · unfold f7_split_p97
      rw [gd_t (oL46 L), bd_s (addToken_s L h6 (by omega) _ _ _)]
    · rw [he]; unfold tkF; rw [if_neg (by omega)]
    · rw [he]; unfold tvF; rw [if_neg (by omega)]
  intro j
  induction j with
  | zero =>
    intro i k n fuel σ hj hi hf L P h100 h6 T hr hn hk hlt
    obtain ⟨f, rfl, -⟩ := suc_of hf
    have : i = s := by omega
    subst this
    have te : tpF t i k = i := by rw [← hr, rnT_s (Nat.le_refl _)]
    obtain ⟨σ', N, w1, w2⟩ := fin k σ L h6 T te (by omega) hlt
    refine ⟨σ', N, ?_, w2⟩
    rw [f7_split_p10, if_neg (nI_nlt (a := i) (b := i) (by omega) (by omega))]
    by_cases c : nI n < 400
    · rw [if_pos c]; exact w1
    · rw [if_neg c]; exact w1
  | succ j ih =>
    intro i k n fuel σ hj hi hf L P h100 h6 T hr hn hk hlt
    by_cases his : i = s
    · subst his
      obtain ⟨f, rfl, -⟩ := suc_of (show 0 < fuel by omega)
      have te : tpF t i k = i := by rw [← hr, rnT_s (Nat.le_refl _)]
      obtain ⟨σ', N, w1, w2⟩ := fin k σ L h6 T te (by omega) hlt
      refine ⟨σ', N, ?_, w2⟩
      rw [f7_split_p10, if_neg (nI_nlt (a := i) (b := i) (by omega) (by omega))]
      by_cases c : nI n < 400
      · rw [if_pos c]; exact w1
      · rw [if_neg c]; exact w1
    · have hlts : i < s := by omega
      obtain ⟨f, rfl, hf2⟩ := suc_of hf
      have hN := L.2.2
      -- a token is added at i, and the next begins behind it
      have add : ∀ (kd : Int32) (v : Int64) (e m : Nat), ¬ spB (t i) = true → kd = tkF t s i → v = tvF t s i → e = teF t s i → i < e → e ≤ s → m ≤ e →
          ∃ σ' N, f7_split_p10 f (wI (wL (wI (wI σ 47 k kd) 48 k (nI i)) 49 k v) 46 6 (nI (k + 1))) 46 100 (nI s) (nI e) (nI m) = some ((), σ') ∧ sI σ' 46 6 = nI (N + 1) ∧ N ≤ 400 ∧ Tks t s (N + 1) σ' ∧ tpF t s N = s ∧ (∀ q, q < N → tpF t s q < s) ∧ Fr Wtk σ σ' := by
        intro kd v e m hsp h1 h2 h3 h4 h5 hm
        have tp : tpF t s k = i := by rw [← hr]; exact rnT_n hsp
        have L2 := Lay_Fr (tk_Fr (n := k) (kd := kd) (pl := nI i) (v := v) (x := k + 1)) L
        obtain ⟨σ', N, w1, w2, w3, w4, w5, w6, w7⟩ := ih e (k + 1) m f (wI (wL (wI (wI σ 47 k kd) 48 k (nI i)) 49 k v) 46 6 (nI (k + 1))) (by omega) h5 (by omega) L2 (fun q hq => by rw [sL_wI, sL_wL, if_neg (by omega), sL_wI, sL_wI]; exact P q hq) (by rw [← h100]; exact funext fun q => by rw [sI_wo (by decide), sI_wLr, sI_wo (by decide), sI_wo (by decide)]) (sI_w1 _ _ _ _) (Tks_add T (by rw [tp]; exact h1) (by rw [tp]) (by rw [tp]; exact h2)) (by show _ = rnT spB t s (teF t s (tpF t s k)); rw [tp, ← h3]) hm (by omega) (fun q hq => by
          by_cases c : q = k
          · rw [c, tp]; exact hlts
          · exact hlt q (by omega))
        exact ⟨σ', N, w1, w2, w3, w4, w5, w6, Fr_tr tk_Fr w7⟩
      have B' : Byt (sI σ 100) s := by rw [h100]; exact B
      rw [f7_split_p10, if_pos (show nI n < 400 from nI_lt (b := 400) (by omega) (by decide)), if_pos (nI_lt hlts (by omega)), gd_t (oL100 L), gd_t (inb_n (lL100 L) (by omega) (by decide)), lt_b, ix_n (by omega), h100, bd_s isLetter_s]
      unfold f7_split_p91
      by_cases c1 : ltB (t i) = true
      · have te : teF t s i = rnT ltB t s i := by unfold teF; rw [if_pos hlts, if_pos c1]
        have tes := teF_sp (t := t) (show i ≤ s by omega)
        have w := splitWord_l L P hs B' (p := i) hlts (s - i) i FU (by omega) (Nat.le_refl _) (by unfold FU; omega) rfl
        rw [h100, Nat.sub_self] at w
        unfold f7_splitWord_p104 at w
        rw [gd_t (oL46 L), bd_s (addToken_s L h6 (by omega) _ _ _)] at w
        have w' : f7_splitWord σ 46 100 (nI i) (nI s) = _ := w
        rw [if_pos c1, if_neg (by decide), gd_t (oL46 L), bd_s w', lt_b, nI_1]
        exact add _ _ _ (n + 1) (lt_sp c1) (by unfold tkF; rw [if_pos hlts, if_pos c1]) (by unfold tvF; rw [if_pos hlts, if_pos c1]) te.symm (by rw [← te]; exact tes.2.2 hlts) (by rw [← te]; exact tes.2.1) (by rw [← te]; have := tes.2.2 hlts; omega)
      · rw [if_neg c1, if_pos rfl, bd_s isFigure_s]
        by_cases c2 : fgB (t i) = true
        · have te : teF t s i = rnT fgB t s i := by unfold teF; rw [if_pos hlts, if_neg c1, if_pos c2]
          have tes := teF_sp (t := t) (show i ≤ s by omega)
          have w := splitNumber_l L hs B' (p := i) hlts (s - i) i FU (by omega) (Nat.le_refl _) (by unfold FU; omega) rfl
          rw [h100, Nat.sub_self] at w
          unfold f7_splitNumber_p61 at w
          rw [gd_t (oL46 L), bd_s (addToken_s L h6 (by omega) _ _ _)] at w
          have w' : f7_splitNumber σ 46 100 (nI i) (nI s) = _ := w
          rw [if_pos c2, if_neg (by decide), gd_t (oL46 L), bd_s w', lt_b, nI_1]
          exact add _ _ _ (n + 1) (fg_sp c2) (by unfold tkF; rw [if_pos hlts, if_neg c1, if_pos c2]) (by unfold tvF; rw [if_pos hlts, if_neg c1, if_pos c2]) te.symm (by rw [← te]; exact tes.2.2 hlts) (by rw [← te]; exact tes.2.1) (by rw [← te]; have := tes.2.2 hlts; omega)
        · rw [if_neg c2, if_pos rfl]
          unfold f7_split_p88 f7_split_p91
          have skip : spB (t i) = true → ∃ σ' N, f7_split_p10 f σ 46 100 (nI s) (nI (i + 1)) (nI (n + 1)) = some ((), σ') ∧ sI σ' 46 6 = nI (N + 1) ∧ N ≤ 400 ∧ Tks t s (N + 1) σ' ∧ tpF t s N = s ∧ (∀ q, q < N → tpF t s q < s) ∧ Fr Wtk σ σ' := fun hsp =>
            ih (i + 1) k (n + 1) f σ (by omega) (by omega) (by omega) L P h100 h6 T (by rw [← rnT_y hlts hsp]; exact hr) (by omega) (by omega) hlt
          by_cases c3 : t i = 32
          · rw [if_pos c3, lt_b, lt_b, nI_1, nI_1]; exact skip (decide_eq_true (Or.inl c3))
          · rw [if_neg c3]
            by_cases c4 : t i = 10
            · rw [if_pos c4, lt_b, lt_b, nI_1, nI_1]; exact skip (decide_eq_true (Or.inr c4))
            · have hsp : ¬ spB (t i) = true := fun q => by
                rcases of_decide_eq_true q with q | q
                · exact c3 q
                · exact c4 q
              have te : teF t s i = i + 1 := by unfold teF; rw [if_pos hlts, if_neg c1, if_neg c2]
              rw [if_neg c4, gd_t (oL46 L), bd_s (addToken_s L h6 (by omega) _ _ _), lt_b, lt_b, nI_1, nI_1]
              exact add _ _ _ (n + 1) hsp (by unfold tkF; rw [if_pos hlts, if_neg c1, if_neg c2]) (by unfold tvF; rw [if_pos hlts, if_neg c1, if_neg c2]) te.symm (by omega) (by omega) (by omega)
theorem split_s {t : Nat → Int32} {s : Nat} {σ : St} (L : Lay σ) (P : gP σ) (hs : s ≤ 400) (B : Byt t s) (h100 : sI σ 100 = t) : ∃ σ' N, f7_split σ 46 100 (nI s) = some ((), σ') ∧ sI σ' 46 6 = nI (N + 1) ∧ N ≤ 400 ∧ Tks t s (N + 1) σ' ∧ tpF t s N = s ∧ (∀ q, q < N → tpF t s q < s) ∧ Fr Wtk σ σ' := by
  obtain ⟨σ', N, w1, w2, w3, w4, w5, w6, w7⟩ := split_l hs B s 0 0 0 FU (wI σ 46 6 0) (by omega) (by omega) (by unfold FU; omega) (Lay_wI L) P (by rw [← h100]; exact funext fun q => sI_wo (by decide) q) (sI_w1 _ _ _ _) (fun k hk => absurd hk (by omega)) rfl (Nat.le_refl _) (Nat.le_refl _) (fun q hq => absurd hq (by omega))
  refine ⟨σ', N, ?_, w2, w3, w4, w5, w6, Fr_tr (Fr_wI Fr_rf (Or.inl (by unfold Wtk; omega))) w7⟩
  unfold f7_split
  rw [gd_t (oL46 L), lt_b]
  exact w1
/-! the reference -/
theorem sb_lt : ∀ c, c < 256 → ltB (sbF (nI c)) = ltB (nI c) := by decide +kernel
theorem sb_fg : ∀ c, c < 256 → fgB (sbF (nI c)) = fgB (nI c) := by decide +kernel
theorem sb_id : ∀ c, c < 128 → sbF (nI c) = nI c := by decide +kernel
theorem sb_hi : ∀ c, c < 256 → (c < 128 ∨ sbF (nI c) < 0) := by decide +kernel
theorem sb_eq {c d : Nat} (hc : c < 256) (hd : d < 128) : sbF (nI c) = nI d ↔ nI c = nI d := by
  rcases sb_hi c hc with h | h
  · rw [sb_id c h]
  · refine ⟨fun q => ?_, fun q => ?_⟩
    · rw [q] at h; exact absurd h (nI_pos (by omega))
    · have := (nI_eq (by omega) (by omega)).mp q
      rw [this] at h ⊢
      exact sb_id d hd
def Wnx (x k : Nat) : Prop := x = 101 ∧ 36 ≤ k ∧ k ≤ 39
/-- the reference's tape is t -/
def Tpm (t : Nat → Int32) (s : Nat) (ρ : St) : Prop := sI ρ 101 35 = nI s ∧ ∀ i, i < s → sI ρ 131 i = sbF (t i)
theorem Tpm_Fr {W : Nat → Nat → Prop} {t : Nat → Int32} {s : Nat} {ρ ρ' : St} (h : Fr W ρ ρ') (L : Lay ρ) (hw : ∀ x k, x = 101 ∧ k = 35 ∨ x = 131 → ¬ W x k) (T : Tpm t s ρ) : Tpm t s ρ' := by
  have hN := L.2.2
  exact ⟨by rw [Fr_i h (by omega) (hw _ _ (Or.inl ⟨rfl, rfl⟩))]; exact T.1, fun i hi => by rw [Fr_i h (by omega) (hw _ _ (Or.inr rfl))]; exact T.2 i hi⟩
theorem see_s {t : Nat → Int32} {s : Nat} {ρ : St} (L : Lay ρ) (hs : s ≤ 400) (T : Tpm t s ρ) (k : Nat) (hk : k < 2147483648) : f12_see ρ 101 (nI k) = some (if k < s then sbF (t k) else 0, ρ) := by
  unfold f12_see
  rw [gd_t (oL101 L), T.1]
  by_cases c : k < s
  · rw [if_pos (nI_lt c (by omega)), if_pos c, lt_b, rL101_34 L, gd_t nz_s, gd_t (oL131 L), gd_t (inb_n (lL131 L) (by omega) (by decide)), ix_n (by omega), T.2 k c]
  · rw [if_neg (nI_nlt (by omega) (by omega)), if_neg c]
theorem isSmall_s {σ : St} {x : Int32} : f12_isSmall σ x = some (if ltB x = true then 1 else 0, σ) := by
  unfold f12_isSmall ltB
  by_cases h1 : x < 97
  · rw [if_pos h1, if_neg (fun w => (of_decide_eq_true w).1 h1)]
  · rw [if_neg h1]
    by_cases h2 : x ≤ 122
    · rw [if_pos h2, if_pos (decide_eq_true ⟨h1, h2⟩)]
    · rw [if_neg h2, if_neg (fun w => h2 (of_decide_eq_true w).2)]
theorem isDigit_s {σ : St} {x : Int32} : f12_isDigit σ x = some (if fgB x = true then 1 else 0, σ) := by
  unfold f12_isDigit fgB
  by_cases h1 : x < 48
  · rw [if_pos h1, if_neg (fun w => (of_decide_eq_true w).1 h1)]
  · rw [if_neg h1]
    by_cases h2 : x ≤ 57
    · rw [if_pos h2, if_pos (decide_eq_true ⟨h1, h2⟩)]
    · rw [if_neg h2, if_neg (fun w => h2 (of_decide_eq_true w).2)]
theorem seen {t : Nat → Int32} {s : Nat} (B : Byt t s) (k : Nat) : ltB (if k < s then sbF (t k) else 0) = (decide (k < s) && ltB (t k)) ∧ fgB (if k < s then sbF (t k) else 0) = (decide (k < s) && fgB (t k)) := by
  by_cases c : k < s
  · obtain ⟨x, hx, e⟩ := B k c
    rw [if_pos c, decide_eq_true c, e, sb_lt x hx, sb_fg x hx]
    exact ⟨rfl, rfl⟩
  · rw [if_neg c, decide_eq_false c]
    exact ⟨rfl, rfl⟩
theorem word_lp {t : Nat → Int32} {s p : Nat} (hs : s ≤ 400) (B : Byt t s) : ∀ (j a fuel : Nat) (ρ : St), s - a ≤ j → a ≤ s → j < fuel → p ≤ a → Lay ρ → Tpm t s ρ → sI ρ 101 36 = nI a → sI ρ 101 37 = nI p →
    ∃ ρ', f12_next_p109 fuel ρ 101 = some ((), ρ') ∧ Fr Wnx ρ ρ' ∧ sI ρ' 101 36 = nI (rnT ltB t s a) ∧ sI ρ' 101 37 = nI p ∧ sI ρ' 101 38 = (if rnT ltB t s a - p ≤ 8 then 3 else 1) := by
  intro j
  induction j with
  | zero =>
    intro a fuel ρ hj ha hf hp L T h36 h37
    obtain ⟨f, rfl, -⟩ := suc_of hf
    have : a = s := by omega
    subst this
    rw [rnT_s (Nat.le_refl _), f12_next_p109, gd_t (oL101 L), h36, bd_s (see_s L hs T a (by omega)), bd_s isSmall_s, (seen B a).1, decide_eq_false (show ¬ a < a by omega), Bool.false_and, ite_B, if_neg (by decide), h36, h37, pk_sub hp]
    unfold f12_next_p156
    by_cases c : a - p ≤ 8
    · refine ⟨wI ρ 101 38 3, by rw [if_pos (show nI (a - p) ≤ 8 from nI_le (b := 8) c (by decide)), gd_t (oL101 L), lt_b], Fr_wI Fr_rf (Or.inl (by unfold Wnx; omega)), by rw [sI_wk (by decide)]; exact h36, by rw [sI_wk (by decide)]; exact h37, by rw [sI_w1, if_pos c]⟩
    · refine ⟨wI ρ 101 38 1, by rw [if_neg (show ¬ nI (a - p) ≤ 8 from nI_ge (a := 8) (by omega) (by omega)), gd_t (oL101 L), lt_b], Fr_wI Fr_rf (Or.inl (by unfold Wnx; omega)), by rw [sI_wk (by decide)]; exact h36, by rw [sI_wk (by decide)]; exact h37, by rw [sI_w1, if_neg c]⟩
  | succ j ih =>
    intro a fuel ρ hj ha hf hp L T h36 h37
    obtain ⟨f, rfl, hf2⟩ := suc_of hf
    by_cases c0 : a < s ∧ ltB (t a) = true
    · have fr : Fr Wnx ρ (wI ρ 101 36 (nI (a + 1))) := Fr_wI Fr_rf (Or.inl (by unfold Wnx; omega))
      obtain ⟨ρ', w1, w2, w3, w4, w5⟩ := ih (a + 1) f (wI ρ 101 36 (nI (a + 1))) (by omega) (by omega) (by omega) (by omega) (Lay_wI L) (Tpm_Fr fr L (fun x k q => by unfold Wnx; omega) T) (sI_w1 _ _ _ _) (by rw [sI_wk (by decide)]; exact h37)
      rw [rnT_y c0.1 c0.2]
      refine ⟨ρ', ?_, Fr_tr fr w2, w3, w4, w5⟩
      rw [f12_next_p109, gd_t (oL101 L), h36, bd_s (see_s L hs T a (by omega)), bd_s isSmall_s, (seen B a).1, decide_eq_true c0.1, c0.2, ite_B, if_pos (show (true && true) = true from rfl), lt_b, h36, nI_1]
      exact w1
    · have hr : rnT ltB t s a = a := by
        by_cases c1 : a < s
        · exact rnT_n (fun q => c0 ⟨c1, q⟩)
        · exact rnT_s (by omega)
      have hb : (decide (a < s) && ltB (t a)) = false := by
        by_cases c1 : a < s
        · rw [decide_eq_true c1, Bool.true_and]; exact Bool.eq_false_iff.mpr (fun q => c0 ⟨c1, q⟩)
        · rw [decide_eq_false c1]; rfl
      rw [hr, f12_next_p109, gd_t (oL101 L), h36, bd_s (see_s L hs T a (by omega)), bd_s isSmall_s, (seen B a).1, hb, ite_B, if_neg (by decide), h36, h37, pk_sub hp]
      unfold f12_next_p156
      by_cases c : a - p ≤ 8
      · refine ⟨wI ρ 101 38 3, by rw [if_pos (show nI (a - p) ≤ 8 from nI_le (b := 8) c (by decide)), gd_t (oL101 L), lt_b], Fr_wI Fr_rf (Or.inl (by unfold Wnx; omega)), by rw [sI_wk (by decide)]; exact h36, by rw [sI_wk (by decide)]; exact h37, by rw [sI_w1, if_pos c]⟩
      · refine ⟨wI ρ 101 38 1, by rw [if_neg (show ¬ nI (a - p) ≤ 8 from nI_ge (a := 8) (by omega) (by omega)), gd_t (oL101 L), lt_b], Fr_wI Fr_rf (Or.inl (by unfold Wnx; omega)), by rw [sI_wk (by decide)]; exact h36, by rw [sI_wk (by decide)]; exact h37, by rw [sI_w1, if_neg c]⟩
def mi4 (n : Nat) : Nat := if n ≤ 4 then n else 4
theorem nmF_b {t : Nat → Int32} {p : Nat} : ∀ n, (∀ q, q < n → 48 ≤ ix (t (p + q)) ∧ ix (t (p + q)) ≤ 57) → nmF t p n < 10 ^ n := by
  intro n
  induction n with
  | zero => intro _; show 0 < 1; decide
  | succ n ih =>
    intro h
    have a := ih (fun q hq => h q (by omega))
    have b := h n (by omega)
    show nmF t p n * 10 + (ix (t (p + n)) - 48) < 10 ^ n * 10
    omega
theorem num_lp {t : Nat → Int32} {s p : Nat} (hs : s ≤ 400) (B : Byt t s) : ∀ (j a fuel : Nat) (ρ : St), s - a ≤ j → a ≤ s → j < fuel → p < a → (∀ q, p ≤ q → q < a → fgB (t q) = true) → Lay ρ → Tpm t s ρ → sI ρ 101 36 = nI a → sI ρ 101 37 = nI p → sI ρ 101 39 = nI (nmF t p (mi4 (a - p))) →
    ∃ ρ', f12_next_p177 fuel ρ 101 = some ((), ρ') ∧ Fr Wnx ρ ρ' ∧ sI ρ' 101 36 = nI (rnT fgB t s a) ∧ sI ρ' 101 37 = nI p ∧ sI ρ' 101 38 = (if rnT fgB t s a - p ≤ 4 then 2 else 1) ∧ sI ρ' 101 39 = nI (nmF t p (mi4 (rnT fgB t s a - p))) := by
  have fin : ∀ (a : Nat) (ρ : St), p < a → a ≤ s → Lay ρ → sI ρ 101 36 = nI a → sI ρ 101 37 = nI p → sI ρ 101 39 = nI (nmF t p (mi4 (a - p))) →
      ∃ ρ', (if (sI ρ 101 36 - sI ρ 101 37) ≤ (4 : Int32) then f12_next_p259 ρ (2 : Int32) 101 else f12_next_p259 ρ (1 : Int32) 101) = some ((), ρ') ∧ Fr Wnx ρ ρ' ∧ sI ρ' 101 36 = nI a ∧ sI ρ' 101 37 = nI p ∧ sI ρ' 101 38 = (if a - p ≤ 4 then 2 else 1) ∧ sI ρ' 101 39 = nI (nmF t p (mi4 (a - p))) := by
    intro a ρ hp ha L h36 h37 h39
    rw [h36, h37, pk_sub (by omega)]
    unfold f12_next_p259
    by_cases c : a - p ≤ 4
    · refine ⟨wI ρ 101 38 2, by rw [if_pos (show nI (a - p) ≤ 4 from nI_le (b := 4) c (by decide)), gd_t (oL101 L), lt_b], Fr_wI Fr_rf (Or.inl (by unfold Wnx; omega)), by rw [sI_wk (by decide)]; exact h36, by rw [sI_wk (by decide)]; exact h37, by rw [sI_w1, if_pos c], by rw [sI_wk (by decide)]; exact h39⟩
    · refine ⟨wI ρ 101 38 1, by rw [if_neg (show ¬ nI (a - p) ≤ 4 from nI_ge (a := 4) (by omega) (by omega)), gd_t (oL101 L), lt_b], Fr_wI Fr_rf (Or.inl (by unfold Wnx; omega)), by rw [sI_wk (by decide)]; exact h36, by rw [sI_wk (by decide)]; exact h37, by rw [sI_w1, if_neg c], by rw [sI_wk (by decide)]; exact h39⟩
  intro j
  induction j with
  | zero =>
    intro a fuel ρ hj ha hf hp hd L T h36 h37 h39
    obtain ⟨f, rfl, -⟩ := suc_of hf
    have : a = s := by omega
    subst this
    rw [rnT_s (Nat.le_refl _), f12_next_p177, gd_t (oL101 L), h36, bd_s (see_s L hs T a (by omega)), bd_s isDigit_s, (seen B a).2, decide_eq_false (show ¬ a < a by omega), Bool.false_and, ite_B, if_neg (by decide), ← h36]
    have := fin a ρ hp (Nat.le_refl _) L h36 h37 h39
    rw [h36] at this ⊢
    exact this
  | succ j ih =>
    intro a fuel ρ hj ha hf hp hd L T h36 h37 h39
    obtain ⟨f, rfl, hf2⟩ := suc_of hf
    by_cases c0 : a < s ∧ fgB (t a) = true
    · have hd' : ∀ q, p ≤ q → q < a + 1 → fgB (t q) = true := fun q q1 q2 => by
        by_cases e : q = a
        · rw [e]; exact c0.2
        · exact hd q q1 (by omega)
      rw [rnT_y c0.1 c0.2]
      obtain ⟨c, hc, hce⟩ := B a c0.1
      have hb : 48 ≤ c ∧ c ≤ 57 := by have := c0.2; rw [hce] at this; exact fg_byte this (by omega)
      have dg : ∀ q, q < a - p → 48 ≤ ix (t (p + q)) ∧ ix (t (p + q)) ≤ 57 := fun q hq => by
        obtain ⟨x, hx, e⟩ := B (p + q) (by omega)
        have := hd (p + q) (by omega) (by omega)
        rw [e] at this ⊢
        rw [ix_n (by omega)]
        exact fg_byte this (by omega)
      have go : ∀ ρ2 v, ρ2 = ρ ∨ ρ2 = wI ρ 101 39 v → sI ρ2 101 39 = nI (nmF t p (mi4 (a + 1 - p))) → ∃ ρ', f12_next_p227 (f12_next_p177 f) ρ2 101 = some ((), ρ') ∧ Fr Wnx ρ ρ' ∧ sI ρ' 101 36 = nI (rnT fgB t s (a + 1)) ∧ sI ρ' 101 37 = nI p ∧ sI ρ' 101 38 = (if rnT fgB t s (a + 1) - p ≤ 4 then 2 else 1) ∧ sI ρ' 101 39 = nI (nmF t p (mi4 (rnT fgB t s (a + 1) - p))) := by
        intro ρ2 v h2 h39'
        have L2 : Lay ρ2 := by rcases h2 with rfl | rfl; exact L; exact Lay_wI L
        have f2 : Fr Wnx ρ ρ2 := by
          rcases h2 with rfl | rfl
          · exact Fr_rf
          · exact Fr_wI Fr_rf (Or.inl (by unfold Wnx; omega))
        have k36 : sI ρ2 101 36 = nI a := by
          rcases h2 with rfl | rfl
          · exact h36
          · rw [sI_wk (by decide)]; exact h36
        have k37 : sI ρ2 101 37 = nI p := by
          rcases h2 with rfl | rfl
          · exact h37
          · rw [sI_wk (by decide)]; exact h37
        have fr : Fr Wnx ρ (wI ρ2 101 36 (nI (a + 1))) := Fr_wI f2 (Or.inl (by unfold Wnx; omega))
        obtain ⟨ρ', w1, w2, w3⟩ := ih (a + 1) f (wI ρ2 101 36 (nI (a + 1))) (by omega) (by omega) (by omega) (by omega) hd' (Lay_wI L2) (Tpm_Fr fr L (fun x k q => by unfold Wnx; omega) T) (sI_w1 _ _ _ _) (by rw [sI_wk (by decide)]; exact k37) (by rw [sI_wk (by decide)]; exact h39')
        refine ⟨ρ', ?_, Fr_tr fr w2, w3⟩
        unfold f12_next_p227
        rw [gd_t (oL101 L2), lt_b, k36, nI_1]
        exact w1
      rw [f12_next_p177, gd_t (oL101 L), h36, bd_s (see_s L hs T a (by omega)), bd_s isDigit_s, (seen B a).2, decide_eq_true c0.1, c0.2, ite_B, if_pos (show (true && true) = true from rfl), h36, h37, pk_sub (by omega)]
      by_cases c4 : a - p < 4
      · have nb := nmF_b (t := t) (p := p) (a - p) dg
        have pw : 10 ^ (a - p) ≤ 10 ^ 3 := Nat.pow_le_pow_right (by decide) (by omega)
        have e1 : (10 : Int32) * nI (nmF t p (a - p)) = nI (10 * nmF t p (a - p)) := pk_mul 10 _
        have m1 : mi4 (a - p) = a - p := if_pos (by omega)
        have m2 : mi4 (a + 1 - p) = a + 1 - p := if_pos (by omega)
        have ev : (10 : Int32) * sI ρ 101 39 + (if a < s then sbF (t a) else 0) - 48 = nI (nmF t p (mi4 (a + 1 - p))) := by
          rw [h39, m1, m2, if_pos c0.1, hce, sb_id c (by omega), e1, nI_add, show (48 : Int32) = nI 48 from rfl, pk_sub (by omega)]
          congr 1
          rw [show a + 1 - p = (a - p) + 1 by omega]
          show _ = nmF t p (a - p) * 10 + (ix (t (p + (a - p))) - 48)
          rw [show p + (a - p) = a by omega, hce, ix_n (by omega)]
          omega
        rw [if_pos (show nI (a - p) < 4 from nI_lt (b := 4) c4 (by decide)), bd_s (see_s L hs T a (by omega)), ev, lt_b]
        exact go _ _ (Or.inr rfl) (sI_w1 _ _ _ _)
      · rw [if_neg (show ¬ nI (a - p) < 4 from nI_nlt (b := 4) (by omega) (by omega))]
        exact go ρ 0 (Or.inl rfl) (by
          rw [h39]
          have : mi4 (a - p) = mi4 (a + 1 - p) := by
            unfold mi4
            by_cases e : a - p ≤ 4
            · rw [if_pos e, if_neg (by omega)]; omega
            · rw [if_neg e, if_neg (by omega)]
          rw [this])
    · have hr : rnT fgB t s a = a := by
        by_cases c1 : a < s
        · exact rnT_n (fun q => c0 ⟨c1, q⟩)
        · exact rnT_s (by omega)
      have hb : (decide (a < s) && fgB (t a)) = false := by
        by_cases c1 : a < s
        · rw [decide_eq_true c1, Bool.true_and]; exact Bool.eq_false_iff.mpr (fun q => c0 ⟨c1, q⟩)
        · rw [decide_eq_false c1]; rfl
      rw [hr, f12_next_p177, gd_t (oL101 L), h36, bd_s (see_s L hs T a (by omega)), bd_s isDigit_s, (seen B a).2, hb, ite_B, if_neg (by decide)]
      exact fin a ρ hp ha L h36 h37 h39
