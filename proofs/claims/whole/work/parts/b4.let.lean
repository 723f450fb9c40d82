/-! TOLL RULES, LET RULES -/
theorem bd_gd {α β : Type} {b : Bool} {x : Option (α × St)} {g : α → St → Option β} : bd (gd b x) g = gd b (bd x g) := by cases b <;> rfl
theorem bd_lt {α β γ : Type} {a : γ} {f : γ → Option (α × St)} {g : α → St → Option β} : bd (lt a f) g = lt a (fun x => bd (f x) g) := rfl
theorem bd_bd {α β γ : Type} {x : Option (γ × St)} {f : γ → St → Option (α × St)} {g : α → St → Option β} : bd (bd x f) g = bd x (fun a u => bd (f a u) g) := by cases x <;> rfl
theorem bd_if {α β : Type} {c : Prop} [Decidable c] {A B : Option (α × St)} {g : α → St → Option β} : bd (if c then A else B) g = if c then bd A g else bd B g := by
  by_cases h : c
  · rw [if_pos h, if_pos h]
  · rw [if_neg h, if_neg h]
def tollZ (ρ : St) (y : Int32) : Option (Unit × St) := bd (f12_number ρ 101) fun r9 t10 => gd (ob t10 124 14) (gd (inb t10 124 y) (lt (wI t10 124 (ix y) r9) fun t15 => bd (f12_isWell t15 101) fun r17 t18 => (if r17 = (0 : Int32) then f12_readToll_p25 t18 101 y else bd (f12_next t18 101) fun r22 t23 => f12_readToll_p25 t23 101 y)))
theorem p78_f {ρ : St} (fl : Flt ρ) : f12_readToll_p78 ρ 101 = some ((), ρ) := by
  unfold f12_readToll_p78
  rw [gd_t (oL101 fl.1), bd_s (isWell_f fl), if_pos rfl]
theorem p25_f {σ ρ : St} {r : Nat} (h : FR σ ρ) (hr : r < 20) : ∃ ρ', f12_readToll_p25 ρ 101 (nI (480 + r)) = some ((), ρ') ∧ FR σ ρ' ∧ Fr W7 ρ ρ' := by
  have fl := FR_flt h
  have M := fl.1
  have fr2 := FR_out h (fr7 (v := 0) (j := r) (show 123 ≤ 125 by decide) (by decide)) (fun x q w => by unfold W7 at w; omega)
  have fl2 := FR_flt fr2
  refine ⟨_, ?_, fr2, fr7 (by decide) (by decide)⟩
  unfold f12_readToll_p25
  rw [gd_t (oL101 M), bd_s (wantWord_f fl _), lt_b, rL101_28 M, gd_t nz_s, bd_s (number_f fl), gd_t (oL125 M), gd_t (inb_n (lL125 M) (by omega) (by decide)), lt_b, ix_n (by omega), bd_s (isWell_f fl2), if_pos rfl, p78_f fl2]
theorem toll_s {t : Nat → Int32} {s N k c l r : Nat} {σ ρ : St} (C : Ctx t s N) (D : DQ σ ρ r c l) (hr : r < 20) (P : PR t s N k c l 0 σ ρ) (hck : c ≤ k) (H : RH ρ r c 259) : RuT t s N r k l σ ρ (f7_tollRule σ 46) (bd (tollZ ρ (nI (480 + r))) fun _ t => f12_readRule_p194 t 101 (nI (480 + r))) := by
  have L := P.1.1
  have M := P.2.2.1.1
  -- behind a fault
  have bad : ∀ σ' ρ2, f7_tollRule σ 46 = some (0, σ') → tollZ ρ (nI (480 + r)) = some ((), ρ2) → FR σ' ρ2 → Fr Wrc σ σ' → Fr Wrm ρ ρ2 → RuT t s N r k l σ ρ (f7_tollRule σ 46) (bd (tollZ ρ (nI (480 + r))) fun _ t => f12_readRule_p194 t 101 (nI (480 + r))) := by
    intro σ' ρ2 h1 h2 h3 h4 h5
    obtain ⟨ρ4, e1, e2, e3⟩ := p194_f h3 hr
    exact Or.inr ⟨σ', ρ4, h1, by rw [bd_s h2, e1], e2, h4, Fr_tr h5 (Fr_mo e3 (fun _ _ => w7_rm))⟩
  rcases num_s C P with ⟨v, v4, h8, hk, vh, nm⟩ | ⟨σ1, ρ1, w, h8, vh, tk, nm, fr, f1, g1⟩
  · obtain ⟨P1, σ1, ρ1, a1, a2, a3, a4, a5, a6, -, a8, a9⟩ := put7 (x := 124) (v := nI v) C D P H hk (Or.inl rfl)
    have M1 := P1.2.2.1.1
    have m40 := P1.2.2.1.2.2.2.1
    have eM : tollZ ρ (nI (480 + r)) = f12_readToll_p25 ρ1 101 (nI (480 + r)) := by
      unfold tollZ
      rw [bd_s nm, gd_t (oL124 M), gd_t (inb_n (lL124 M) (by omega) (by decide)), lt_b, ix_n (by omega), bd_s (isWell_w M1 m40), if_neg (by decide), bd_s a2]
    have eC : f7_tollRule σ 46 = bd (f7_take σ1 46 (260 : Int32)) fun r13 t14 => (if r13 = (0 : Int32) then some ((0 : Int32), t14) else bd (f7_valueHere t14 46) fun r18 t19 => lt (r18.toInt32) fun y22 => (if (sI t19 46 8) = (-3 : Int32) then (if y22 = (0 : Int32) then f7_tollRule_p51 t19 46 else (if y22 < nI v then f7_tollRule_p51 t19 46 else f7_tollRule_p57 t19 46 (nI v) y22)) else f7_tollRule_p57 t19 46 (nI v) y22)) := by
      unfold f7_tollRule
      rw [gd_t (oL46 L), bd_s vh, lN_i, lt_b, bd_s (take3 L h8 a1), if_neg (by decide)]
    have M1' := a3.2.2.1.1
    have L1' := a3.1.1
    have g1 : Fr Wrm ρ ρ1 := a9
    have f1 : Fr Wrc σ σ1 := Fr_mo a8 (fun _ _ => pc_rc)
    rcases tk_word (id := 8) (q := 4) C a3 (by decide) (by decide) (by decide) pwS_k.2.2.2.2.1 with ⟨σ2, ρ2, b1, b2, b3, b4, b5, b6, b7⟩ | ⟨σ2, ρ2, b1, b2, b3, b6, b7⟩
    · have b1' : f7_take σ1 46 260 = some (1, σ2) := b1
      have L2 := b3.1.1
      have M2 := b3.2.2.1.1
      have hM1' := M1'.2.2
      have D2 := DQ_p a4 L1' M1' b6 b7 b5
      have H2 := RH_pm a5 M1' b7 (fun y q w => by unfold Wpm at w; omega)
      have k124 : sI ρ2 124 (480 + r) = nI v := by rw [Fr_i b7 (by omega) (by unfold Wpm; omega)]; exact a6
      have f2 : Fr Wrc σ σ2 := Fr_tr f1 (Fr_mo b6 (fun _ _ => pc_rc))
      have g2 : Fr Wrm ρ ρ2 := Fr_tr g1 (Fr_mo b7 (fun _ _ => pm_rm))
      rcases num_s C b3 with ⟨u, u4, h8', hk', vh', nm'⟩ | ⟨σ3, ρ3, w, h8', vh', tk', nm', fr', f3, g3⟩
      · obtain ⟨P3, σ3, ρ3, d1, d2, d3, d4, d5, d6, d7, d8, d9⟩ := put7 (x := 125) (v := nI u) C D2 b3 H2 hk' (Or.inr rfl)
        have M3 := P3.2.2.1.1
        have m43 := P3.2.2.1.2.2.2.1
        have eM2 : f12_readToll_p25 ρ1 101 (nI (480 + r)) = if nI u = 0 then f12_readToll_p73 (wI ρ2 125 (480 + r) (nI u)) 101 else if nI u < nI v then f12_readToll_p73 (wI ρ2 125 (480 + r) (nI u)) 101 else f12_readToll_p78 (wI ρ2 125 (480 + r) (nI u)) 101 := by
          unfold f12_readToll_p25
          rw [gd_t (oL101 M1'), bd_s b2, lt_b, rL101_28 M2, gd_t nz_s, bd_s nm', gd_t (oL125 M2), gd_t (inb_n (lL125 M2) (by omega) (by decide)), lt_b, ix_n (by omega), bd_s (isWell_w M3 m43), if_neg (by decide), lt_b, rL101_28 M3, gd_t nz_s, gd_t (oL125 M3), gd_t (inb_n (lL125 M3) (by omega) (by decide)), sI_w1, lt_b, rL101_27 M3, gd_t nz_s, gd_t (oL124 M3), gd_t (inb_n (lL124 M3) (by omega) (by decide)), sI_wo (by decide), k124]
        have eC2 : f7_tollRule σ 46 = if nI u = 0 then f7_tollRule_p51 σ2 46 else if nI u < nI v then f7_tollRule_p51 σ2 46 else f7_tollRule_p57 σ2 46 (nI v) (nI u) := by
          rw [eC, bd_s b1', if_neg (by decide), bd_s vh', lN_i, lt_b, h8', if_pos rfl]
        by_cases q : nI u = 0 ∨ nI u < nI v
        · obtain ⟨σ4, ρ4, e1, e2, e3, e4, e5⟩ := PR_fail (F := 2) C P3 (by decide) (by decide)
          have p51 : f7_tollRule_p51 σ2 46 = some (0, σ4) := by
            unfold f7_tollRule_p51
            rw [gd_t (oL46 L2), show (2 : Int32) = nI 2 from rfl, bd_s e1, gd_t (by decide)]
          have p73 : f12_readToll_p73 (wI ρ2 125 (480 + r) (nI u)) 101 = some ((), ρ4) := by
            unfold f12_readToll_p73
            rw [gd_t (oL101 M3), show (2 : Int32) = nI 2 from rfl, bd_s e2, p78_f (FR_flt e3)]
          refine bad σ4 ρ4 ?_ ?_ e3 (Fr_tr f2 (Fr_mo e4 (fun _ _ => pc_rc))) (Fr_tr (Fr_tr g2 (Fr_wI Fr_rf (Or.inl (by unfold Wrm; omega)))) (Fr_mo e5 (fun _ _ => pm_rm)))
          · rw [eC2]
            by_cases q1 : nI u = 0
            · rw [if_pos q1, p51]
            · rw [if_neg q1, if_pos (by rcases q with q | q; exact absurd q q1; exact q), p51]
          · rw [eM, eM2]
            by_cases q1 : nI u = 0
            · rw [if_pos q1, p73]
            · rw [if_neg q1, if_pos (by rcases q with q | q; exact absurd q q1; exact q), p73]
        · have q1 : ¬ nI u = 0 := fun w => q (Or.inl w)
          have q2 : ¬ nI u < nI v := fun w => q (Or.inr w)
          have u0 : 0 < u := by
            rcases Nat.eq_zero_or_pos u with h | h
            · exact absurd (by rw [h]; rfl) q1
            · exact h
          have k124' : sI ρ3 124 (480 + r) = nI v := by rw [d7 124 (Or.inl rfl) (by decide)]; exact k124
          have p78 : f12_readToll_p78 (wI ρ2 125 (480 + r) (nI u)) 101 = some ((), ρ3) := by
            unfold f12_readToll_p78
            rw [gd_t (oL101 M3), bd_s (isWell_w M3 m43), if_neg (by decide), bd_s d2]
          have eC3 : f7_tollRule σ 46 = tlC σ3 259 (nI v) (nI u) := by
            rw [eC2, if_neg q1, if_neg q2]
            unfold f7_tollRule_p57
            rw [gd_t (oL46 L2), bd_s (take3 L2 h8' d1), if_neg (by decide)]
            rfl
          have tz : tollZ ρ (nI (480 + r)) = some ((), ρ3) := by rw [eM, eM2, if_neg q1, if_neg q2, p78]
          rw [eC3, bd_s tz]
          exact RuT_from (tail_s (A := nI v) (B := nI u) C d4 hr d3 (by omega) d5 (Or.inr (Or.inr (Or.inl rfl))) (fun _ => ⟨by rw [nI_toInt (by omega)]; omega, k124', d6⟩) (fun h => absurd h (by decide))) (by omega) (Fr_tr f2 (Fr_mo d8 (fun _ _ => pc_rc))) (Fr_tr g2 d9)
      · have fl := FR_flt fr'
        have M3 := fl.1
        have fr2 := FR_out fr' (fr7 (v := 0) (j := r) (show 123 ≤ 125 by decide) (by decide)) (fun x q w => by unfold W7 at w; omega)
        have fl2 := FR_flt fr2
        refine bad σ3 (wI ρ3 125 (480 + r) 0) ?_ ?_ fr2 (Fr_tr f2 (Fr_mo f3 (fun _ _ => pc_rc))) (Fr_tr g2 (Fr_tr (Fr_mo g3 (fun _ _ => pm_rm)) (Fr_mo (fr7 (by decide) (by decide)) (fun _ _ => w7_rm))))
        · rw [eC, bd_s b1', if_neg (by decide), bd_s vh', lt_b, if_neg h8']
          unfold f7_tollRule_p57
          rw [gd_t (oL46 L2), bd_s tk', if_pos rfl]
        · rw [eM]
          unfold f12_readToll_p25
          rw [gd_t (oL101 M1'), bd_s b2, lt_b, rL101_28 M2, gd_t nz_s, bd_s nm', gd_t (oL125 M3), gd_t (inb_n (lL125 M3) (by omega) (by decide)), lt_b, ix_n (by omega), bd_s (isWell_f fl2), if_pos rfl, p78_f fl2]
    · have b1' : f7_take σ1 46 260 = some (0, σ2) := b1
      have fl := FR_flt b3
      have M2 := fl.1
      have fr2 := FR_out b3 (fr7 (v := 0) (j := r) (show 123 ≤ 125 by decide) (by decide)) (fun x q w => by unfold W7 at w; omega)
      have fl2 := FR_flt fr2
      refine bad σ2 (wI ρ2 125 (480 + r) 0) ?_ ?_ fr2 (Fr_tr f1 (Fr_mo b6 (fun _ _ => pc_rc))) (Fr_tr (Fr_tr g1 (Fr_mo b7 (fun _ _ => pm_rm))) (Fr_mo (fr7 (by decide) (by decide)) (fun _ _ => w7_rm)))
      · rw [eC, bd_s b1', if_pos rfl]
      · rw [eM]
        unfold f12_readToll_p25
        rw [gd_t (oL101 M1'), bd_s b2, lt_b, rL101_28 M2, gd_t nz_s, bd_s (number_f fl), gd_t (oL125 M2), gd_t (inb_n (lL125 M2) (by omega) (by decide)), lt_b, ix_n (by omega), bd_s (isWell_f fl2), if_pos rfl, p78_f fl2]
  · have fl := FR_flt fr
    have M1 := fl.1
    have fr2 := FR_out fr (fr7 (v := 0) (j := r) (show 123 ≤ 124 by decide) (by decide)) (fun x q w => by unfold W7 at w; omega)
    have fl2 := FR_flt fr2
    obtain ⟨ρ4, e1, e2, e3⟩ := p25_f fr2 hr
    refine bad σ1 ρ4 ?_ ?_ e2 (Fr_mo f1 (fun _ _ => pc_rc)) (Fr_tr (Fr_tr (Fr_mo g1 (fun _ _ => pm_rm)) (Fr_mo (fr7 (by decide) (by decide)) (fun _ _ => w7_rm))) (Fr_mo e3 (fun _ _ => w7_rm)))
    · unfold f7_tollRule
      rw [gd_t (oL46 L), bd_s vh, lt_b, bd_s tk, if_pos rfl]
    · unfold tollZ
      rw [bd_s nm, gd_t (oL124 M1), gd_t (inb_n (lL124 M1) (by omega) (by decide)), lt_b, ix_n (by omega), bd_s (isWell_f fl2), if_pos rfl, e1]
/-! a name more -/
theorem nar_c : ∀ c, c < 128 → vp_nar .byte (nI c) = nI c := by decide +kernel
theorem pwF_cg {t u : Nat → Int32} {p r : Nat} : ∀ n, (∀ q, q < n → u (r + q) = t (p + q)) → pwF u r n = pwF t p n := by
  intro n
  induction n with
  | zero => intro _; rfl
  | succ n ih =>
    intro h
    show pwF u r n * 32 + (ix (u (r + n)) - 96) = pwF t p n * 32 + (ix (t (p + n)) - 96)
    rw [ih (fun q hq => h q (by omega)), h n (by omega)]
def Wnl (l x k : Nat) : Prop := x = 132 ∧ 8 * l ≤ k ∨ x = 133 ∧ k = l ∨ x = 101 ∧ k = 44
theorem copy_l {t : Nat → Int32} {s p n l : Nat} (hs : s ≤ 400) (hp : p + n ≤ s) (n8 : n ≤ 8) (l6 : l < 6) (W : Wrd t p n) : ∀ (j i fuel : Nat) (ρ : St), i + j = n → j < fuel → Lay ρ → Tpm t s ρ → sI ρ 101 44 = nI l → ∃ ρ', f12_readLet_p125 fuel ρ 101 (nI p) (nI n) (nI i) = some ((), ρ') ∧ Fr (Wnl l) ρ ρ' ∧ sI ρ' 101 44 = nI (l + 1) ∧ (∀ q, i ≤ q → q < n → sI ρ' 132 (8 * l + q) = t (p + q)) ∧ (∀ q, q < 8 * l + i → sI ρ' 132 q = sI ρ 132 q) ∧ ∀ q, sI ρ' 133 q = sI ρ 133 q := by
  intro j
  induction j with
  | zero =>
    intro i fuel ρ hi hf M T h44
    obtain ⟨f, rfl, -⟩ := suc_of hf
    refine ⟨wI ρ 101 44 (nI (l + 1)), ?_, Fr_wI Fr_rf (Or.inl (by unfold Wnl; omega)), sI_w1 _ _ _ _, fun q q1 q2 => by omega, fun q _ => sI_wo (by decide) q, fun q => sI_wo (by decide) q⟩
    rw [f12_readLet_p125, if_neg (nI_nlt (by omega) (by omega)), gd_t (oL101 M), h44, nI_1, lt_b]
  | succ j ih =>
    intro i fuel ρ hi hf M T h44
    obtain ⟨f, rfl, hf2⟩ := suc_of hf
    obtain ⟨c, c1, c2, c3⟩ := W i (by omega)
    have e8 : (8 : Int32) * nI l + nI i = nI (8 * l + i) := by
      have : (8 : Int32) * nI l = nI (8 * l) := pk_mul 8 l
      rw [this, nI_add]
    have fr : Fr (Wnl l) ρ (wI ρ 132 (8 * l + i) (nI c)) := Fr_wI Fr_rf (Or.inl (by unfold Wnl; omega))
    obtain ⟨ρ', w1, w2, w3, w4, w5, w6⟩ := ih (i + 1) f (wI ρ 132 (8 * l + i) (nI c)) (by omega) (by omega) (Lay_wI M) (Tpm_Fr fr M (fun x k q => by unfold Wnl; omega) T) (by rw [sI_wo (by decide)]; exact h44)
    refine ⟨ρ', ?_, Fr_tr fr w2, w3, fun q q1 q2 => ?_, fun q hq => by rw [w5 q (by omega), sI_wk (by omega)], fun q => by rw [w6, sI_wo (by decide)]⟩
    · rw [f12_readLet_p125, if_pos (nI_lt (by omega) (by omega)), gd_t (oL101 M), lt_b, rL101_45 M, gd_t nz_s, lt_b, rL101_34 M, gd_t nz_s, gd_t (oL131 M), nI_add, gd_t (inb_n (lL131 M) (by omega) (by decide)), gd_t (oL132 M), h44, e8, gd_t (inb_n (lL132 M) (by omega) (by decide)), lt_b, lt_b, ix_n (k := p + i) (by omega), ix_n (k := 8 * l + i) (by omega), T.2 _ (by omega), c3, sb_id c (by omega), nar_c c (by omega), nI_1]
      exact w1
    · by_cases e : q = i
      · rw [e, w5 (8 * l + i) (by omega), sI_w1, c3]
      · exact w4 q (by omega) q2
theorem PR_let {t : Nat → Int32} {s N k c l p n : Nat} {σ ρ ρ' : St} (P : PR t s N k c l 0 σ ρ) (l6 : l < 6) (n8 : n ≤ 8) (W : Wrd t p n) (g : Fr (Wnl l) ρ ρ') (h44 : sI ρ' 101 44 = nI (l + 1)) (h133 : sI ρ' 133 l = nI n) (h132 : ∀ q, q < n → sI ρ' 132 (8 * l + q) = t (p + q)) : PR t s N k c (l + 1) 0 (wI (wL σ 51 (9 + l) (lN (pwF t p n))) 46 9 (nI (l + 1))) ρ' := by
  obtain ⟨⟨L, K, h6, T⟩, ⟨kN, h7, h8, h9, -, h10, h5, h11, h12⟩, ⟨M, Tp, Tk, m40, m43, m44, m24⟩, R, co⟩ := P
  have hM := M.2.2
  have f : Fr (fun x k => x = 51 ∨ x = 46 ∧ k = 9) σ (wI (wL σ 51 (9 + l) (lN (pwF t p n))) 46 9 (nI (l + 1))) := by
    refine Fr_wI (Fr_wL Fr_rf ?_) ?_
    · exact Or.inl (Or.inl rfl)
    · exact Or.inl (Or.inr ⟨rfl, rfl⟩)
  have km : ∀ x q, x ≤ 153 → ¬ Wnl l x q → sI ρ' x q = sI ρ x q := fun x q h1 h2 => Fr_i g (by omega) h2
  have e51 : ∀ q, sL (wI (wL σ 51 (9 + l) (lN (pwF t p n))) 46 9 (nI (l + 1))) 51 q = if q = 9 + l then lN (pwF t p n) else sL σ 51 q := fun q => by
    rw [sL_wI, sL_wL]
    by_cases c : q = 9 + l
    · rw [if_pos ⟨rfl, c⟩, if_pos c]
    · rw [if_neg (fun w => c w.2), if_neg c]
  refine ⟨⟨Lay_wI (Lay_wL L), fun q hq => by rw [sL_wI, sL_wL, if_neg (by omega)]; exact K q hq, by rw [sI_wk (by decide), sI_wLr]; exact h6, Tks_Fr T (fun q => by rw [sI_wo (by decide), sI_wLr]) (fun q => by rw [sI_wo (by decide), sI_wLr]) (fun q => by rw [sL_wI, sL_wL, if_neg (by omega)])⟩, ⟨kN, by rw [sI_wk (by decide), sI_wLr]; exact h7, by rw [sI_wk (by decide), sI_wLr]; exact h8, sI_w1 _ _ _ _, by omega, by rw [sI_wk (by decide), sI_wLr]; exact h10, by rw [sI_wo (by decide), sI_wLr]; exact h5, by rw [sI_wk (by decide), sI_wLr]; exact h11, by rw [sI_wk (by decide), sI_wLr]; exact h12⟩, ⟨Lay_Fr g M, Tpm_Fr g M (fun x q hq => by unfold Wnl; omega) Tp, ⟨by rw [km _ _ (by omega) (by unfold Wnl; omega)]; exact Tk.1, by rw [km _ _ (by omega) (by unfold Wnl; omega)]; exact Tk.2.1, by rw [km _ _ (by omega) (by unfold Wnl; omega)]; exact Tk.2.2.1, fun h => by rw [km _ _ (by omega) (by unfold Wnl; omega)]; exact Tk.2.2.2.1 h, fun h => by rw [km _ _ (by omega) (by unfold Wnl; omega)]; exact Tk.2.2.2.2 h⟩, by rw [km _ _ (by omega) (by unfold Wnl; omega)]; exact m40, by rw [km _ _ (by omega) (by unfold Wnl; omega)]; exact m43, h44, by rw [km _ _ (by omega) (by unfold Wnl; omega)]; exact m24⟩, ⟨fun i hi => by rw [e51, if_neg (by omega)]; exact R.1 i hi, fun i hi => ?_⟩, fun i hi => by rw [km 120 _ (by omega) (by unfold Wnl; omega), sI_wo (by decide), sI_wLr]; exact co i hi⟩
  by_cases ci : i = l
  · rw [ci, e51, if_pos rfl]
    refine ⟨n, n8, h133, fun q hq => ?_, ?_⟩
    · obtain ⟨x, x1, x2, x3⟩ := W q hq
      exact ⟨x, x1, x2, by rw [h132 q hq]; exact x3⟩
    · rw [pwF_cg n h132]
  · obtain ⟨z, z1, z2, z3, z4⟩ := R.2 i (by omega)
    have e132 : ∀ q, q < z → sI ρ' 132 (8 * i + q) = sI ρ 132 (8 * i + q) := fun q hq => km _ _ (by omega) (by unfold Wnl; omega)
    refine ⟨z, z1, by rw [km 133 i (by omega) (by unfold Wnl; omega)]; exact z2, fun q hq => ?_, ?_⟩
    · obtain ⟨x, x1, x2, x3⟩ := z3 q hq
      exact ⟨x, x1, x2, by rw [e132 q hq]; exact x3⟩
    · rw [e51, if_neg (by omega), z4, pwF_cg z e132]
