/-! READING A WHOLE TAPE -/
theorem so_0 {t : Nat → Int32} {s p : Nat} : soF t s p = 0 → ¬ p < s := by
  intro h c
  unfold soF at h
  rw [if_pos c] at h
  by_cases c1 : ltB (t p) = true
  · rw [if_pos c1] at h
    by_cases d : rnT ltB t s p - p ≤ 8
    · rw [if_pos d] at h; exact absurd h (by decide)
    · rw [if_neg d] at h; exact absurd h (by decide)
  · rw [if_neg c1] at h
    by_cases c2 : fgB (t p) = true
    · rw [if_pos c2] at h
      by_cases d : rnT fgB t s p - p ≤ 4
      · rw [if_pos d] at h; exact absurd h (by decide)
      · rw [if_neg d] at h; exact absurd h (by decide)
    · rw [if_neg c2] at h; exact absurd h (by decide)
theorem tk_1 {t : Nat → Int32} {s p : Nat} (B : Byt t s) : tkF t s p = -1 → ¬ p < s := by
  intro h c
  unfold tkF at h
  rw [if_pos c] at h
  by_cases c1 : ltB (t p) = true
  · rw [if_pos c1] at h
    by_cases d : rnT ltB t s p - p ≤ 8
    · rw [if_pos d] at h
      rcases kwS_sp (w := lN (pwF t p (rnT ltB t s p - p))) 10 0 with ⟨h1, -⟩ | ⟨r, r1, r2, r3, -⟩
      · rw [h1] at h; exact absurd h (by decide)
      · rw [r3] at h; exact nI_m1 (by omega) h
    · rw [if_neg d] at h; exact absurd h (by decide)
  · rw [if_neg c1] at h
    by_cases c2 : fgB (t p) = true
    · rw [if_pos c2] at h
      by_cases d : rnT fgB t s p - p ≤ 4
      · rw [if_pos d] at h; exact absurd h (by decide)
      · rw [if_neg d] at h; exact absurd h (by decide)
    · rw [if_neg c2] at h
      obtain ⟨x, hx, hxe⟩ := B p c
      rw [hxe] at h
      exact nI_m1 (by omega) h
theorem tk_so {t : Nat → Int32} {s p : Nat} (B : Byt t s) : tkF t s p = -1 ↔ soF t s p = 0 := by
  constructor
  · intro h
    unfold soF
    rw [if_neg (tk_1 B h)]
  · intro h
    unfold tkF
    rw [if_neg (so_0 h)]
theorem read_lp {t : Nat → Int32} {s N : Nat} (C : Ctx t s N) (sh fr : Int32) : ∀ (j k c l r fuel gas : Nat) (σ ρ : St), N - k ≤ j → j + 1 < fuel → j + 1 < gas → PR t s N k c l 0 σ ρ → DQ σ ρ r c l → c ≤ k → r ≤ 20 → sI ρ 122 24 = nI r →
    ∃ σ' ρ', Fr Wrc σ σ' ∧ Fr Wrm ρ ρ' ∧ f12_rules_p74 gas ρ 101 sh fr = f12_rules_p95 ρ' 101 sh fr ∧
      ((∃ k' c' l' r', f7_read_p64 fuel σ 46 1 (nI r) = some (0, σ') ∧ PR t s N k' c' l' 0 σ' ρ' ∧ DQ σ' ρ' r' c' l' ∧ c' ≤ k' ∧ r' ≤ 20 ∧ sI ρ' 122 24 = nI r') ∨
       (∃ F, 1 ≤ F ∧ F ≤ 4 ∧ f7_read_p64 fuel σ 46 1 (nI r) = some (nI F, σ') ∧ FR σ' ρ' ∧ sI ρ' 101 40 = nI F)) := by
  intro j
  induction j with
  | zero =>
    intro k c l r fuel gas σ ρ hj hf hg P D hck hr h122
    obtain ⟨f, rfl, -⟩ := suc_of hf
    obtain ⟨g, rfl, -⟩ := suc_of hg
    have L := P.1.1
    have M := P.2.2.1.1
    have kN : k = N := by have := P.2.1.1; omega
    have e : ¬ tpF t s k < s := by rw [kN, C.2.2.2.1]; omega
    have e1 : tkF t s (tpF t s k) = -1 := by unfold tkF; rw [if_neg e]
    have h8 := P.2.1.2.2.1
    rw [e1] at h8
    refine ⟨σ, ρ, Fr_rf, Fr_rf, ?_, Or.inl ⟨k, c, l, r, ?_, P, D, hck, hr, h122⟩⟩
    · rw [f12_rules_p74, gd_t (oL101 M), bd_s (isWell_w M P.2.2.1.2.2.2.1), if_neg (by decide), if_pos (by rw [P.2.2.1.2.2.1.2.2.1]; exact (tk_so C.2.1).mp e1)]
    · rw [f7_read_p64, if_pos (show nI r ≤ 20 from nI_le (b := 20) hr (by decide)), if_neg (by decide), gd_t (oL46 L), if_pos h8, P.2.1.2.2.2.2.2.2.2.1]
  | succ j ih =>
    intro k c l r fuel gas σ ρ hj hf hg P D hck hr h122
    obtain ⟨f, rfl, hf2⟩ := suc_of hf
    obtain ⟨g, rfl, hg2⟩ := suc_of hg
    have L := P.1.1
    have M := P.2.2.1.1
    have h8 := P.2.1.2.2.1
    by_cases e1 : tkF t s (tpF t s k) = -1
    · rw [e1] at h8
      refine ⟨σ, ρ, Fr_rf, Fr_rf, ?_, Or.inl ⟨k, c, l, r, ?_, P, D, hck, hr, h122⟩⟩
      · rw [f12_rules_p74, gd_t (oL101 M), bd_s (isWell_w M P.2.2.1.2.2.2.1), if_neg (by decide), if_pos (by rw [P.2.2.1.2.2.1.2.2.1]; exact (tk_so C.2.1).mp e1)]
      · rw [f7_read_p64, if_pos (show nI r ≤ 20 from nI_le (b := 20) hr (by decide)), if_neg (by decide), gd_t (oL46 L), if_pos h8, P.2.1.2.2.2.2.2.2.2.1]
    · have n8 : ¬ sI σ 46 8 = -1 := by rw [h8]; exact e1
      have nso : ¬ sI ρ 101 38 = 0 := by rw [P.2.2.1.2.2.1.2.2.1]; exact fun w => e1 ((tk_so C.2.1).mpr w)
      obtain ⟨l', R, R20⟩ := rule_s C D hr P hck h122
      have eC : ∀ (v : Int32) σ', f7_rule σ 46 = some (v, σ') → f7_read_p64 (f + 1) σ 46 1 (nI r) = f7_read_p64 f σ' 46 v (nI (r + 1)) := fun v σ' h => by
        rw [f7_read_p64, if_pos (show nI r ≤ 20 from nI_le (b := 20) hr (by decide)), if_neg (by decide), gd_t (oL46 L), if_neg n8, bd_s h, nI_1, lt_b]
      have eM : ∀ ρ', f12_readRule ρ 101 = some ((), ρ') → f12_rules_p74 (g + 1) ρ 101 sh fr = f12_rules_p74 g ρ' 101 sh fr := fun ρ' h => by
        rw [f12_rules_p74, gd_t (oL101 M), bd_s (isWell_w M P.2.2.1.2.2.2.1), if_neg (by decide), if_neg nso, bd_s h]
      rcases R with ⟨σ', ρ', k', c', h1, h2, h3, h4, h5, h6, h7, h9, h10⟩ | ⟨σ', ρ', h1, h2, h3, h9, h10⟩
      · have r20 : r < 20 := by
          by_cases q : r = 20
          · obtain ⟨σ2, w⟩ := R20 q
            rw [h1] at w
            have w2 : (1 : Int32) = 0 := congrArg Prod.fst (Option.some.inj w)
            exact absurd w2 (by decide)
          · omega
        obtain ⟨σ2, ρ2, a1, a2, a3, a4⟩ := ih k' c' l' (r + 1) f g σ' ρ' (by omega) (by omega) (by omega) h3 h6 h5 (by omega) h7
        refine ⟨σ2, ρ2, Fr_tr h9 a1, Fr_tr h10 a2, by rw [eM ρ' h2]; exact a3, ?_⟩
        rcases a4 with ⟨k2, c2, l2, r2, b1, b2⟩ | ⟨F, b1, b2, b3, b4⟩
        · exact Or.inl ⟨k2, c2, l2, r2, by rw [eC 1 σ' h1]; exact b1, b2⟩
        · exact Or.inr ⟨F, b1, b2, by rw [eC 1 σ' h1]; exact b3, b4⟩
      · obtain ⟨⟨Lq, Mq⟩, F, p, w1, w2, w3, w4, w5, w6, w7⟩ := h3
        obtain ⟨f', rfl, -⟩ := suc_of (show 0 < f by omega)
        obtain ⟨g', rfl, -⟩ := suc_of (show 0 < g by omega)
        refine ⟨σ', ρ', h9, h10, ?_, Or.inr ⟨F, w1, w2, ?_, ⟨⟨Lq, Mq⟩, F, p, w1, w2, w3, w4, w5, w6, w7⟩, w6⟩⟩
        · rw [eM ρ' h2, f12_rules_p74, gd_t (oL101 Mq), bd_s (isWell_f ⟨Mq, by rw [w6]; exact nI_ne0 (by omega) (by omega)⟩), if_pos rfl]
        · rw [eC 0 σ' h1, f7_read_p64, gd_t (oL46 Lq), w4]
          by_cases q : nI (r + 1) ≤ 20
          · rw [if_pos q, if_pos rfl]
          · rw [if_neg q]
def Wra (x k : Nat) : Prop := Wrc x k ∨ Wtk x k
/-- the reference's state where a text begins -/
def rs0 (ρ : St) : St := wI (wI (wI (wI (wI (wI ρ 101 40 0) 101 36 0) 101 43 0) 101 44 0) 121 24 0) 122 24 0
theorem rs0_Fr {ρ : St} : Fr Wrm ρ (rs0 ρ) := by
  unfold rs0
  refine Fr_wI (Fr_wI (Fr_wI (Fr_wI (Fr_wI (Fr_wI Fr_rf ?_) ?_) ?_) ?_) ?_) ?_ <;> exact Or.inl (by unfold Wrm; omega)
theorem nx_rm {x k : Nat} (h : Wnx x k) : Wrm x k := by unfold Wnx at h; unfold Wrm; omega
def gG (σ : St) : Prop := gP σ ∧ ∀ i, i < 9 → sL σ 51 i = lN (pwS (13 + i))
/-- reading: class from σ, reference from ρ -/
theorem read_s {σ ρ : St} {s : Nat} (L : Lay σ) (M : Lay ρ) (G : gG σ) (hs : s ≤ 400) (B : Byt (sI σ 100) s) (T : Tpm (sI σ 100) s ρ) (sh fr : Int32) :
    ∃ σ' ρ', Fr Wra σ σ' ∧ Fr Wrm ρ ρ' ∧ (bd (f12_next (rs0 ρ) 101) fun r42 t43 => f12_rules_p74 FU t43 101 sh fr) = f12_rules_p95 ρ' 101 sh fr ∧
      ((∃ N k c l r, f7_read σ 46 100 (nI s) = some (0, σ') ∧ PR (sI σ 100) s N k c l 0 σ' ρ' ∧ DQ σ' ρ' r c l ∧ c ≤ 400 ∧ r ≤ 20 ∧ sI ρ' 122 24 = nI r) ∨
       (∃ F, 1 ≤ F ∧ F ≤ 4 ∧ f7_read σ 46 100 (nI s) = some (nI F, σ') ∧ FR σ' ρ' ∧ sI ρ' 101 40 = nI F)) := by
  obtain ⟨σ1, N, a1, a2, a3, a4, a5, a6, a7⟩ := split_s L G.1 hs B rfl
  have C : Ctx (sI σ 100) s N := ⟨hs, B, a3, a5, a6⟩
  have L1 := Lay_Fr a7 L
  have hN := L.2.2
  have hM := M.2.2
  have M0 : Lay (rs0 ρ) := Lay_Fr rs0_Fr M
  have T0 : Tpm (sI σ 100) s (rs0 ρ) := Tpm_Fr rs0_Fr M (fun x k q => by unfold Wrm; omega) T
  have i36 : sI (rs0 ρ) 101 36 = nI 0 := by
    unfold rs0
    rw [sI_wo (by decide), sI_wo (by decide), sI_wk (by decide), sI_wk (by decide), sI_w1]; rfl
  obtain ⟨ρ1, n1, n2, n3⟩ := next_s (a := 0) hs B M0 T0 (by omega) i36
  have M1 := Lay_Fr n2 M0
  have k1 : ∀ x j, x ≤ 153 → ¬ Wnx x j → sI ρ1 x j = sI (rs0 ρ) x j := fun x j q1 q2 => Fr_i n2 (by have := M0.2.2; omega) q2
  have e40 : sI ρ1 101 40 = 0 := by
    rw [k1 _ _ (by omega) (by unfold Wnx; omega)]; unfold rs0
    rw [sI_wo (by decide), sI_wo (by decide), sI_wk (by decide), sI_wk (by decide), sI_wk (by decide), sI_w1]
  have e43 : sI ρ1 101 43 = nI 0 := by
    rw [k1 _ _ (by omega) (by unfold Wnx; omega)]; unfold rs0
    rw [sI_wo (by decide), sI_wo (by decide), sI_wk (by decide), sI_w1]; rfl
  have e44 : sI ρ1 101 44 = nI 0 := by
    rw [k1 _ _ (by omega) (by unfold Wnx; omega)]; unfold rs0
    rw [sI_wo (by decide), sI_wo (by decide), sI_w1]; rfl
  have e121 : sI ρ1 121 24 = nI 0 := by
    rw [k1 _ _ (by omega) (by unfold Wnx; omega)]; unfold rs0
    rw [sI_wo (by decide), sI_w1]; rfl
  have e122 : sI ρ1 122 24 = nI 0 := by
    rw [k1 _ _ (by omega) (by unfold Wnx; omega)]; unfold rs0
    rw [sI_w1]; rfl
  have tk := a4 0 (by omega)
  let σ2 : St := wI (wI (wI (wI (wI (wI (wI (wI σ1 52 5 0) 52 6 0) 46 9 0) 46 10 0) 46 11 0) 46 12 (-1)) 46 7 0) 46 8 (tkF (sI σ 100) s (tpF (sI σ 100) s 0))
  have f2 : Fr Wrc σ1 σ2 := by
    refine Fr_wI (Fr_wI (Fr_wI (Fr_wI (Fr_wI (Fr_wI (Fr_wI (Fr_wI Fr_rf ?_) ?_) ?_) ?_) ?_) ?_) ?_) ?_ <;> exact Or.inl (by unfold Wrc; omega)
  have L2 : Lay σ2 := Lay_Fr f2 L1
  have f12 : Fr Wra σ σ2 := Fr_tr (Fr_mo a7 (fun _ _ h => Or.inr h)) (Fr_mo f2 (fun _ _ h => Or.inl h))
  have fm : Fr Wrm ρ ρ1 := Fr_tr rs0_Fr (Fr_mo n2 (fun _ _ => nx_rm))
  have k2 : ∀ x j, x ≤ 153 → ¬ Wrc x j → sI σ2 x j = sI σ1 x j := fun x j q1 q2 => Fr_i f2 (by have := L1.2.2; omega) q2
  have rd : ∀ j, sI σ2 46 j = if j = 8 then tkF (sI σ 100) s (tpF (sI σ 100) s 0) else if j = 7 then 0 else if j = 12 then -1 else if j = 11 then 0 else if j = 10 then 0 else if j = 9 then 0 else sI σ1 46 j := fun j => by
    show sI (wI (wI (wI (wI (wI (wI (wI (wI σ1 52 5 0) 52 6 0) 46 9 0) 46 10 0) 46 11 0) 46 12 (-1)) 46 7 0) 46 8 (tkF (sI σ 100) s (tpF (sI σ 100) s 0))) 46 j = _
    rw [sI_ws, sI_ws, sI_ws, sI_ws, sI_ws, sI_ws, sI_wo (by decide), sI_wo (by decide)]
  have e5 : sI σ2 52 5 = nI 0 := by
    show sI (wI (wI (wI (wI (wI (wI (wI (wI σ1 52 5 0) 52 6 0) 46 9 0) 46 10 0) 46 11 0) 46 12 (-1)) 46 7 0) 46 8 (tkF (sI σ 100) s (tpF (sI σ 100) s 0))) 52 5 = _
    rw [sI_wo (by decide), sI_wo (by decide), sI_wo (by decide), sI_wo (by decide), sI_wo (by decide), sI_wo (by decide), sI_wk (by decide), sI_w1]; rfl
  have e6 : sI σ2 52 6 = nI 0 := by
    show sI (wI (wI (wI (wI (wI (wI (wI (wI σ1 52 5 0) 52 6 0) 46 9 0) 46 10 0) 46 11 0) 46 12 (-1)) 46 7 0) 46 8 (tkF (sI σ 100) s (tpF (sI σ 100) s 0))) 52 6 = _
    rw [sI_wo (by decide), sI_wo (by decide), sI_wo (by decide), sI_wo (by decide), sI_wo (by decide), sI_wo (by decide), sI_w1]; rfl
  have G2 : gP σ2 := gP_Fr f12 L (fun k => by unfold Wra Wrc Wtk; omega) G.1
  have P2 : PR (sI σ 100) s N 0 0 0 0 σ2 ρ1 := by
    refine ⟨⟨L2, G2, ?_, Tks_F f2 L1 (fun x k q => by unfold Wrc; omega) a4⟩, ⟨by omega, ?_, ?_, ?_, by omega, ?_, e5, ?_, ?_⟩, ⟨M1, Tpm_Fr fm M (fun x k q => by unfold Wrm; omega) T, n3, e40, e43, e44, e121⟩, ⟨fun i hi => ?_, fun i hi => absurd hi (by omega)⟩, fun i hi => absurd hi (by omega)⟩
    · rw [rd]; exact a2
    · rw [rd]; rfl
    · rw [rd]; rfl
    · rw [rd]; rfl
    · rw [rd]; rfl
    · rw [rd]; rfl
    · rw [rd]; rfl
    · rw [(f12.2.2.1 51 i (by omega) (by unfold Wra Wrc Wtk; omega)).2.1]; exact G.2 i hi
  have D2 : DQ σ2 ρ1 0 0 0 := ⟨⟨by show 0 ≤ 6; omega, fun r hr => absurd hr (by omega)⟩, rfl, rfl, e6, fun i hi => absurd hi (by omega)⟩
  have eC : f7_read σ 46 100 (nI s) = f7_read_p64 FU σ2 46 1 (nI 0) := by
    unfold f7_read f10_clear
    rw [gd_t (oL100 L), lL100 L, bd_s min_s, bd_s min_s, gd_t (oL46 L), if_pos (show Int32.ofNat 400 ≤ 400 by decide), if_pos (show nI s ≤ Int32.ofNat 400 from nI_le hs (by decide)), bd_s a1, lt_b, rL46_5 L1, gd_t nz_s, gd_t (oL52 L1), gd_t (oL52 L1), lt_b, lt_b, bd_1, lt_b, lt_b, lt_b, lt_b, lt_b, lt_b]
    simp (disch := omega) only [gd_1, lt_b, bd_1, nz_s, ob_wI, inb_wI, sR_wI, sK_wI, oL46 L1, rL46_0 L1, rL46_1 L1, rL46_2 L1, rL46_3 L1, rL46_4 L1, rL46_5 L1, oL47 L1, inb_n (lL47 L1), inb_k0 (lL47 L1), sI_wo]
    rw [show ix 0 = 0 from rfl, tk.1]
    rfl
  obtain ⟨σ', ρ', b1, b2, b3, b4⟩ := read_lp C sh fr N 0 0 0 0 FU FU σ2 ρ1 (by omega) (by unfold FU; omega) (by unfold FU; omega) P2 D2 (by omega) (by omega) e122
  refine ⟨σ', ρ', Fr_tr f12 (Fr_mo b1 (fun _ _ h => Or.inl h)), Fr_tr fm b2, by rw [bd_s n1]; exact b3, ?_⟩
  rcases b4 with ⟨k', c', l', r', c1, c2, c3, c4, c5, c6⟩ | ⟨F, c1, c2, c3, c4⟩
  · have := c2.2.1.1
    exact Or.inl ⟨N, k', c', l', r', by rw [eC]; exact c1, c2, c3, by omega, c5, c6⟩
  · exact Or.inr ⟨F, c1, c2, by rw [eC]; exact c3, c4⟩
