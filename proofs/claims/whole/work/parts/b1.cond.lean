/-! COMPARISONS, PARTS, CONDS -/
theorem jn_cmp {op a d : Int32} (h : op = -4 ∨ op = -5 ∨ op = -6) : jnF op a d = 0 ∨ jnF op a d = 1 := by
  unfold jnF
  rcases h with rfl | rfl | rfl
  · rw [if_neg (by decide), if_neg (by decide), if_neg (by decide), if_neg (by decide), if_pos rfl]; exact isBt_if
  · rw [if_neg (by decide), if_neg (by decide), if_neg (by decide), if_pos rfl]
    by_cases c : a ≤ d
    · rw [if_pos c]; exact Or.inl rfl
    · rw [if_neg c]; exact Or.inr rfl
  · rw [if_neg (by decide), if_neg (by decide), if_pos rfl]; exact isBt_if
def cpF (κ : Int32) : Int32 := if κ = 60 then -4 else if κ = 62 then -5 else -6
theorem cpF_or (κ : Int32) : cpF κ = -4 ∨ cpF κ = -5 ∨ cpF κ = -6 := by
  unfold cpF
  by_cases h1 : κ = 60
  · rw [if_pos h1]; exact Or.inl rfl
  · rw [if_neg h1]
    by_cases h2 : κ = 62
    · rw [if_pos h2]; exact Or.inr (Or.inl rfl)
    · rw [if_neg h2]; exact Or.inr (Or.inr rfl)
theorem compare_s {t : Nat → Int32} {s N o : Nat} (C : Ctx t s N) (ho : o ≤ 4) : ESp t s N (4 + 2 * (4 - o)) true o f7_comparison f12_compares := by
  intro σ ρ k c l P hc
  have B := C.2.1
  have N4 := C.2.2.1
  have S8 := sumN_s C 8 o ho (by omega)
  rcases S8 σ ρ k c l P hc with ⟨σ1, ρ1, k1, c1, a1, a2, a3, a4, a5, a6, a7, a8, a9, a10⟩ | ⟨σ1, ρ1, a1, a2, a3, a9, a10⟩
  · have L := P.1.1
    have M := P.2.2.1.1
    have L1 := a3.1.1
    have M1 := a3.2.2.1.1
    have m40 := a3.2.2.1.2.2.2.1
    have h8 := a3.2.1.2.2.1
    have s60 : f12_isSign ρ1 101 60 = some (if tkF t s (tpF t s k1) = 60 then 1 else 0, ρ1) := isSign_s (d := 60) B M1 a3.2.2.1.2.2.1 (by decide)
    have s62 : f12_isSign ρ1 101 62 = some (if tkF t s (tpF t s k1) = 62 then 1 else 0, ρ1) := isSign_s (d := 62) B M1 a3.2.2.1.2.2.1 (by decide)
    have s61 : f12_isSign ρ1 101 61 = some (if tkF t s (tpF t s k1) = 61 then 1 else 0, ρ1) := isSign_s (d := 61) B M1 a3.2.2.1.2.2.1 (by decide)
    have eC : f7_comparison σ 46 = if tkF t s (tpF t s k1) = 60 ∨ tkF t s (tpF t s k1) = 62 ∨ tkF t s (tpF t s k1) = 61 then f7_comparison_p38 σ1 46 (tkF t s (tpF t s k1)) else bd (f7_refuse σ1 46 (1 : Int32)) fun r12 t13 => gd (isB r12) (some (r12, t13)) := by
      unfold f7_comparison
      rw [gd_t (oL46 L), bd_s a1, if_neg (by decide), lt_b, h8]
      by_cases q1 : tkF t s (tpF t s k1) = 60
      · rw [if_pos q1, if_pos (Or.inl q1)]
      · rw [if_neg q1]
        by_cases q2 : tkF t s (tpF t s k1) = 62
        · rw [if_pos q2, if_pos (Or.inr (Or.inl q2))]
        · rw [if_neg q2]
          by_cases q3 : tkF t s (tpF t s k1) = 61
          · rw [if_pos q3, if_pos (Or.inr (Or.inr q3))]
          · rw [if_neg q3, if_neg (fun w => by rcases w with w | w | w; exact q1 w; exact q2 w; exact q3 w)]
    have eM : f12_compares ρ 101 = f12_compares_p55 ρ1 101 (if tkF t s (tpF t s k1) = 60 then -4 else if tkF t s (tpF t s k1) = 62 then -5 else if tkF t s (tpF t s k1) = 61 then -6 else 0) := by
      unfold f12_compares
      rw [gd_t (oL101 M), bd_s a2, bd_s (isWell_w M1 m40), if_neg (by decide), bd_s s60, ite_B, bd_s s62, ite_B, bd_s s61, ite_B]
      by_cases q1 : tkF t s (tpF t s k1) = 60
      · rw [if_pos q1, if_pos q1]
      · rw [if_neg q1, if_neg q1]
        by_cases q2 : tkF t s (tpF t s k1) = 62
        · rw [if_pos q2, if_pos q2]
        · rw [if_neg q2, if_neg q2]
          by_cases q3 : tkF t s (tpF t s k1) = 61
          · rw [if_pos q3, if_pos q3]
          · rw [if_neg q3, if_neg q3]
    by_cases q : tkF t s (tpF t s k1) = 60 ∨ tkF t s (tpF t s k1) = 62 ∨ tkF t s (tpF t s k1) = 61
    · have hk : k1 < N := tp_end C a3.2.1.1 (fun e => by rw [e] at q; rcases q with q | q | q <;> exact absurd q (by decide))
      rw [if_pos q] at eC
      have eop : (if tkF t s (tpF t s k1) = 60 then (-4 : Int32) else if tkF t s (tpF t s k1) = 62 then -5 else if tkF t s (tpF t s k1) = 61 then -6 else 0) = cpF (tkF t s (tpF t s k1)) := by
        unfold cpF
        by_cases q1 : tkF t s (tpF t s k1) = 60
        · rw [if_pos q1, if_pos q1]
        · rw [if_neg q1, if_neg q1]
          by_cases q2 : tkF t s (tpF t s k1) = 62
          · rw [if_pos q2, if_pos q2]
          · rw [if_neg q2, if_neg q2, if_pos (by rcases q with q | q | q; exact absurd q q1; exact absurd q q2; exact q)]
      rw [eop] at eM
      have op3 := cpF_or (tkF t s (tpF t s k1))
      have e79 : ∀ τ, Lay τ → (if tkF t s (tpF t s k1) = 60 then f7_comparison_p79 τ (-4 : Int32) 52 else if tkF t s (tpF t s k1) = 62 then f7_comparison_p79 τ (-5 : Int32) 52 else f7_comparison_p79 τ (-6 : Int32) 52) = bd (f10_emit τ 52 (cpF (tkF t s (tpF t s k1)))) fun r33 t34 => some ((1 : Int32), t34) := fun τ Lτ => by
        unfold f7_comparison_p79 cpF
        rw [gd_t (oL52 Lτ), gd_t (oL52 Lτ), gd_t (oL52 Lτ)]
        by_cases q1 : tkF t s (tpF t s k1) = 60
        · rw [if_pos q1, if_pos q1]
        · rw [if_neg q1, if_neg q1]
          by_cases q2 : tkF t s (tpF t s k1) = 62
          · rw [if_pos q2, if_pos q2]
          · rw [if_neg q2, if_neg q2]
      generalize cpF (tkF t s (tpF t s k1)) = op at eM op3 e79
      have op0 : ¬ op = 0 := by rcases op3 with rfl | rfl | rfl <;> decide
      have opm : mpF op = op := by rcases op3 with rfl | rfl | rfl <;> decide
      obtain ⟨σ2, ρ2, b1, b2, b3, b4, b5, b6⟩ := PR_step C a3 hk
      have eM2 : f12_compares ρ 101 = bd (f12_sum 8 ρ2 101) fun r42 t43 => bd (f12_emits t43 101 op) fun r46 t47 => some ((), t47) := by
        rw [eM]
        unfold f12_compares_p55 f12_compares_p65
        rw [if_neg op0, gd_t (oL101 M1), bd_s (isWell_w M1 m40), if_neg (by decide), bd_s b2]
      rcases S8 σ2 ρ2 (k1 + 1) c1 l b3 (by omega) with ⟨σ3, ρ3, k3, c3, d1, d2, d3, d4, d5, d6, d7, d8, d9, d10⟩ | ⟨σ3, ρ3, d1, d2, d3, d9, d10⟩
      · have L3 := d3.1.1
        obtain ⟨σ4, ρ4, e1, e2, e3, e4, e5, e6⟩ := PR_emit d3 (show c3 < 400 by have := d3.2.1.1; omega) op
        rw [opm] at e2
        have lo : ∀ i, i < c3 → sI σ4 53 i = sI σ3 53 i := fun i hi => by rw [e6]; unfold up; rw [if_neg (by omega)]
        have lo2 : ∀ i, i < c1 → sI σ3 53 i = sI σ1 53 i := fun i hi => by rw [d7 i hi, b6]
        have g1 : Sg (sI σ4 53) l c c1 (3 + 2 * (4 - o)) false := Sg_cg a8 (fun i _ hi => by rw [lo i (by omega), lo2 i hi])
        have g2 : Sg (sI σ4 53) l c1 c3 (3 + 2 * (4 - o)) false := Sg_cg d8 (fun i _ hi => (lo i hi).symm)
        have g3 : Sg (sI σ4 53) l c (c3 + 1) (4 + 2 * (4 - o)) true := Sg_mo (Sg_bin g1 g2 (show sI σ4 53 c3 = op by rw [e6]; unfold up; rw [if_pos rfl]) (by rcases op3 with rfl | rfl | rfl <;> decide) (by rcases op3 with rfl | rfl | rfl <;> decide) (by rcases op3 with rfl | rfl | rfl <;> decide) (fun w => by rcases op3 with rfl | rfl | rfl <;> (rcases w with w | w <;> exact absurd w (by decide))) (fun _ a d _ => jn_cmp op3)) (by omega)
        refine Or.inl ⟨σ4, ρ4, k3, c3 + 1, ?_, ?_, e3, by omega, by omega, by omega, fun i hi => by rw [lo i (by omega), lo2 i (by omega), a7 i hi], g3, Fr_tr (Fr_tr a9 b4) (Fr_tr d9 e4), Fr_tr (Fr_tr a10 b5) (Fr_tr d10 e5)⟩
        · rw [eC]
          unfold f7_comparison_p38
          rw [gd_t (oL46 L1), bd_s b1, bd_s d1, if_neg (by decide), lt_b, rL46_5 L3, gd_t nz_s, e79 σ3 L3, bd_s e1]
        · rw [eM2, bd_s d2, bd_s e2]
      · have fl := FR_flt d3
        refine Or.inr ⟨σ3, ρ3, ?_, ?_, d3, Fr_tr (Fr_tr a9 b4) d9, Fr_tr (Fr_tr a10 b5) d10⟩
        · rw [eC]
          unfold f7_comparison_p38
          rw [gd_t (oL46 L1), bd_s b1, bd_s d1, if_pos rfl]
        · rw [eM2, bd_s d2, bd_s (emits_f fl _)]
    · rw [if_neg q] at eC
      rw [if_neg (fun w => q (Or.inl w)), if_neg (fun w => q (Or.inr (Or.inl w))), if_neg (fun w => q (Or.inr (Or.inr w)))] at eM
      obtain ⟨σ2, ρ2, b1, b2, b3, b4, b5⟩ := PR_fail (F := 1) C a3 (by decide) (by decide)
      have fl := FR_flt b3
      refine Or.inr ⟨σ2, ρ2, ?_, ?_, b3, Fr_tr a9 b4, Fr_tr a10 b5⟩
      · rw [eC, show (1 : Int32) = nI 1 from rfl, bd_s b1, gd_t (by decide)]
      · rw [eM]
        unfold f12_compares_p55 f12_compares_p65
        rw [if_pos rfl, gd_t (oL101 M1), show (1 : Int32) = nI 1 from rfl, bd_s b2, gd_t (oL101 fl.1), bd_s (isWell_f fl), if_pos rfl]
  · have fl := FR_flt a3
    refine Or.inr ⟨σ1, ρ1, ?_, ?_, a3, a9, a10⟩
    · unfold f7_comparison
      rw [gd_t (oL46 P.1.1), bd_s a1, if_pos rfl]
    · unfold f12_compares
      rw [gd_t (oL101 P.2.2.1.1), bd_s a2, bd_s (isWell_f fl), if_pos rfl]
/-- behind the nots: v is 1 where their number is odd -/
theorem part41_s {t : Nat → Int32} {s N nd ndr o v : Nat} {F : St → Nat → Option (Int32 × St)} {G : St → Nat → Option (Unit × St)} (C : Ctx t s N) (ho : o ≤ 4) (hn : 4 + 2 * (4 - o) ≤ nd) (hr : o < 4 → ndr ≤ nd ∧ ESp t s N ndr true (o + 1) F G) (hG : ∀ ρ, Flt ρ → G ρ 101 = some ((), ρ)) (hv : v ≤ 1) {σ ρ : St} {k c l : Nat} (P : PR t s N k c l o σ ρ) (hc : c + v ≤ k) :
    (∃ σ' ρ' k' c', f7_part_p41 F σ 46 (nI v) = some (1, σ') ∧ f12_part_p36 G ρ 101 (nI v) = some ((), ρ') ∧ PR t s N k' c' l o σ' ρ' ∧ k < k' ∧ c ≤ c' ∧ c' + k ≤ c + k' + v ∧ (∀ i, i < c → sI σ' 53 i = sI σ 53 i) ∧ Sg (sI σ' 53) l c c' nd true ∧ Fr Wpc σ σ' ∧ Fr Wpm ρ ρ') ∨
    (∃ σ' ρ', f7_part_p41 F σ 46 (nI v) = some (0, σ') ∧ f12_part_p36 G ρ 101 (nI v) = some ((), ρ') ∧ FR σ' ρ' ∧ Fr Wpc σ σ' ∧ Fr Wpm ρ ρ') := by
  have P' := P
  obtain ⟨⟨L, K, h6, T⟩, ⟨kN, h7, h8, h9, l6, h10, h5, h11, h12⟩, ⟨M, Tp, Tk, m40, m43, m44, m24⟩, R, co⟩ := P'
  have C' := C
  obtain ⟨hs, B, N4, tN, tq⟩ := C'
  have s91 : f12_isSign ρ 101 91 = some (if tkF t s (tpF t s k) = 91 then 1 else 0, ρ) := isSign_s (d := 91) B M Tk (by decide)
  -- the sign of a not behind the operand
  have fin : ∀ σ2 ρ2 k2 c2, PR t s N k2 c2 l o σ2 ρ2 → k < k2 → c ≤ c2 → c2 + k ≤ c + k2 → (∀ i, i < c → sI σ2 53 i = sI σ 53 i) → Sg (sI σ2 53) l c c2 nd true → Fr Wpc σ σ2 → Fr Wpm ρ ρ2 →
      ∃ σ' ρ' k' c', f7_part_p69 F σ2 46 (nI v) = some (1, σ') ∧ f12_part_p84 G ρ2 101 (nI v) = some ((), ρ') ∧ PR t s N k' c' l o σ' ρ' ∧ k < k' ∧ c ≤ c' ∧ c' + k ≤ c + k' + v ∧ (∀ i, i < c → sI σ' 53 i = sI σ 53 i) ∧ Sg (sI σ' 53) l c c' nd true ∧ Fr Wpc σ σ' ∧ Fr Wpm ρ ρ' := by
    intro σ2 ρ2 k2 c2 P2 g1 g2 g3 g4 g5 g6 g7
    have L2 := P2.1.1
    have M2 := P2.2.2.1.1
    unfold f7_part_p69 f12_part_p84
    by_cases hv0 : v = 0
    · rw [if_pos (show nI v = 0 by rw [hv0]; rfl), if_pos (show nI v = 0 by rw [hv0]; rfl)]
      exact ⟨σ2, ρ2, k2, c2, rfl, rfl, P2, g1, g2, by omega, g4, g5, g6, g7⟩
    · obtain ⟨σ3, ρ3, e1, e2, e3, e4, e5, e6⟩ := PR_emit P2 (show c2 < 400 by have := P2.2.1.1; omega) (-7)
      rw [show mpF (-7) = -9 by decide] at e2
      have lo : ∀ i, i < c2 → sI σ3 53 i = sI σ2 53 i := fun i hi => by rw [e6]; unfold up; rw [if_neg (by omega)]
      rw [if_neg (nI_ne0 (by omega) (by omega)), if_neg (nI_ne0 (by omega) (by omega)), gd_t (oL46 L2), lt_b, rL46_5 L2, gd_t nz_s, gd_t (oL52 L2), bd_s e1, gd_t (oL101 M2), bd_s e2]
      exact ⟨σ3, ρ3, k2, c2 + 1, rfl, rfl, e3, g1, by omega, by omega, fun i hi => by rw [lo i (by omega), g4 i hi], Sg_not (Sg_cg g5 (fun i _ hi => (lo i hi).symm)) (by rw [e6]; unfold up; rw [if_pos rfl]), Fr_tr g6 e4, Fr_tr g7 e5⟩
  have flt : ∀ ρ2, Flt ρ2 → f12_part_p84 G ρ2 101 (nI v) = some ((), ρ2) := fun ρ2 fl => by
    unfold f12_part_p84
    by_cases q : nI v = 0
    · rw [if_pos q]
    · rw [if_neg q, gd_t (oL101 fl.1), bd_s (emits_f fl _)]
  by_cases k91 : sI σ 46 8 = 91
  · have b91 : tkF t s (tpF t s k) = 91 := by rw [← h8]; exact k91
    have hk : k < N := tp_end C kN (by rw [b91]; decide)
    rw [if_pos b91] at s91
    have eM2 : f12_part_p36 G ρ 101 (nI v) = bd (f12_opens ρ 101) fun r32 t33 => bd (G t33 101) fun r36 t37 => bd (f12_wantSign t37 101 (93 : Int32)) fun r40 t41 => lt (wI t41 101 43 ((sI t41 101 43) - (1 : Int32))) fun t44 => f12_part_p84 G t44 101 (nI v) := by
      unfold f12_part_p36
      rw [gd_t (oL101 M), bd_s (isWell_w M m40), if_neg (by decide), bd_s s91, if_neg (by decide)]
    have eC : f7_part_p41 F σ 46 (nI v) = bd (f7_bracketedCond F σ 46) fun r14 t15 => (if r14 = (0 : Int32) then some ((0 : Int32), t15) else f7_part_p69 F t15 46 (nI v)) := by
      unfold f7_part_p41
      rw [gd_t (oL46 L), if_pos k91]
    by_cases o4 : o < 4
    · obtain ⟨hnd, H⟩ := hr o4
      obtain ⟨σ1, ρ1, a1, a2, a3, a4, a5, a6⟩ := PR_step C (PR_open P (o + 1)) hk
      have f0 : Fr Wpc σ (wI σ 46 10 (nI (o + 1))) := Fr_wI Fr_rf (Or.inl (by unfold Wpc; omega))
      have op : f12_opens ρ 101 = some ((), ρ1) := by
        unfold f12_opens f12_opens_p13
        rw [gd_t (oL101 M), m43, if_neg (show ¬ nI o = 4 from fun e => by have := (nI_eq (a := o) (b := 4) (by omega) (by omega)).mp e; omega), gd_t (oL101 M), bd_s (isWell_w M m40), if_neg (by decide), m43, nI_1, lt_b, bd_s a2]
      have bs : f7_bracketedCond F σ 46 = bd (F σ1 46) fun r9 t10 => (if r9 = (0 : Int32) then some ((0 : Int32), t10) else (if (sI t10 46 8) = (93 : Int32) then lt (wI t10 46 10 ((sI t10 46 10) - (1 : Int32))) fun t15 => bd (f7_step t15 46) fun r17 t18 => some ((1 : Int32), t18) else bd (f7_refuse t10 46 (1 : Int32)) fun r21 t22 => gd (isB r21) (some (r21, t22)))) := by
        unfold f7_bracketedCond
        rw [gd_t (oL46 L), h10, if_pos (show nI o < 4 from nI_lt (b := 4) o4 (by decide)), nI_1, lt_b, bd_s a1]
      have fc1 : Fr Wpc σ σ1 := Fr_tr f0 a4
      have fm1 : Fr Wpm ρ ρ1 := Fr_tr fr_43 a5
      have e531 : ∀ i, sI σ1 53 i = sI σ 53 i := fun i => by rw [a6, sI_wo (by decide)]
      rcases H σ1 ρ1 (k + 1) c l a3 (by omega) with ⟨σ2, ρ2, k2, c2, b1, b2, b3, b4, b5, b6, b7, b8, b9, b10⟩ | ⟨σ2, ρ2, b1, b2, b3, b9, b10⟩
      · have L2 := b3.1.1
        have M2 := b3.2.2.1.1
        have s93 : f12_isSign ρ2 101 93 = some (if tkF t s (tpF t s k2) = 93 then 1 else 0, ρ2) := isSign_s (d := 93) B M2 b3.2.2.1.2.2.1 (by decide)
        have h8' := b3.2.1.2.2.1
        by_cases k93 : sI σ2 46 8 = 93
        · have b93 : tkF t s (tpF t s k2) = 93 := by rw [← h8']; exact k93
          have hk2 : k2 < N := tp_end C b3.2.1.1 (by rw [b93]; decide)
          rw [if_pos b93] at s93
          obtain ⟨σ3, ρx, c1, -, c3, c4, -, c6⟩ := PR_step C (PR_open b3 o) hk2
          obtain ⟨σx, ρ3, -, d2, d3, d4, d5, d6⟩ := PR_step C b3 hk2
          have d7 := PR_open d3 o
          have L2' : Lay (wI σ2 46 10 (nI o)) := Lay_wI L2
          have mix : PR t s N (k2 + 1) c2 l o σ3 (wI ρ3 101 43 (nI o)) := PR_mix c3 d7 (fun q => by rw [fr_51 c4 L2', sL_wIr, sL_wIr, fr_51 d4 L2]) (fun q => by rw [c6, sI_wo (by decide), sI_wo (by decide), d6])
          have fc3 : Fr Wpc σ σ3 := Fr_tr (Fr_tr fc1 b9) (Fr_tr (Fr_wI Fr_rf (Or.inl (by unfold Wpc; omega))) c4)
          have e3 : ∀ q, sI σ3 53 q = sI σ2 53 q := fun q => by rw [c6, sI_wo (by decide)]
          obtain ⟨σ', ρ', k', c', r1, r2, r3⟩ := fin σ3 (wI ρ3 101 43 (nI o)) (k2 + 1) c2 mix (by omega) b5 (by omega) (fun i hi => by rw [e3, b7 i hi, e531]) (by rw [show sI σ3 53 = sI σ2 53 from funext e3]; exact Sg_mo b8 hnd) fc3 (Fr_tr (Fr_tr fm1 b10) (Fr_tr d5 fr_43))
          refine Or.inl ⟨σ', ρ', k', c', ?_, ?_, r3⟩
          · rw [eC, bs, bd_s b1, if_neg (by decide), if_pos k93, b3.2.1.2.2.2.2.2.1, nI_pred, lt_b, bd_s c1, bd_1, if_neg (by decide)]
            exact r1
          · have ws : f12_wantSign ρ2 101 93 = some ((), ρ3) := by
              unfold f12_wantSign
              rw [gd_t (oL101 M2), bd_s (isWell_w M2 b3.2.2.1.2.2.2.1), if_neg (by decide), bd_s s93, if_neg (by decide), bd_s d2]
            rw [eM2, bd_s op, bd_s b2, bd_s ws, d3.2.2.1.2.2.2.2.1, nI_pred, lt_b]
            exact r2
        · obtain ⟨σ3, ρ3, c1, c2', c3, c4, c5⟩ := PR_fail (F := 1) C b3 (by decide) (by decide)
          have fl := FR_flt (FR_w c3 (sI ρ3 101 43 - 1))
          rw [if_neg (by rw [← h8']; exact k93)] at s93
          refine Or.inr ⟨σ3, wI ρ3 101 43 (sI ρ3 101 43 - 1), ?_, ?_, FR_w c3 _, Fr_tr (Fr_tr fc1 b9) c4, Fr_tr (Fr_tr fm1 b10) (Fr_tr c5 fr_43)⟩
          · rw [eC, bs, bd_s b1, if_neg (by decide), if_neg k93, show (1 : Int32) = nI 1 from rfl, bd_s c1, gd_t (by decide), bd_1, if_pos rfl]
          · have ws : f12_wantSign ρ2 101 93 = some ((), ρ3) := by
              unfold f12_wantSign
              rw [gd_t (oL101 M2), bd_s (isWell_w M2 b3.2.2.1.2.2.2.1), if_neg (by decide), bd_s s93, if_pos rfl, show (1 : Int32) = nI 1 from rfl, bd_s c2']
            rw [eM2, bd_s op, bd_s b2, bd_s ws, lt_b, flt _ fl]
      · have fl := FR_flt b3
        refine Or.inr ⟨σ2, wI ρ2 101 43 (sI ρ2 101 43 - 1), ?_, ?_, FR_w b3 _, Fr_tr fc1 b9, Fr_tr (Fr_tr fm1 b10) fr_43⟩
        · rw [eC, bs, bd_s b1, if_pos rfl, bd_1, if_pos rfl]
        · rw [eM2, bd_s op, bd_s b2, bd_s (wantSign_f fl _), lt_b, flt _ (FR_flt (FR_w b3 _))]
    · have o4' : o = 4 := by omega
      obtain ⟨σ', ρ', a1, a2, a3, a4, a5⟩ := PR_fail (F := 4) C P (by decide) (by decide)
      have fl := FR_flt a3
      refine Or.inr ⟨σ', wI ρ' 101 43 (sI ρ' 101 43 - 1), ?_, ?_, FR_w a3 _, a4, Fr_tr a5 fr_43⟩
      · rw [eC]
        unfold f7_bracketedCond
        rw [gd_t (oL46 L), h10, if_neg (show ¬ nI o < 4 from nI_nlt (b := 4) (by omega) (by omega)), show (4 : Int32) = nI 4 from rfl, bd_s a1, gd_t (by decide), bd_1, if_pos rfl]
      · have op : f12_opens ρ 101 = some ((), ρ') := by
          unfold f12_opens f12_opens_p13
          rw [gd_t (oL101 M), m43, if_pos (show nI o = 4 by rw [o4']; rfl), show (4 : Int32) = nI 4 from rfl, bd_s a2, gd_t (oL101 fl.1), bd_s (isWell_f fl), if_pos rfl]
        rw [eM2, bd_s op, bd_s (hG ρ' fl), bd_s (wantSign_f fl _), lt_b, flt _ (FR_flt (FR_w a3 _))]
  · have nb : ¬ tkF t s (tpF t s k) = 91 := by rw [← h8]; exact k91
    rw [if_neg nb] at s91
    have eC : f7_part_p41 F σ 46 (nI v) = bd (f7_comparison σ 46) fun r19 t20 => (if r19 = (0 : Int32) then some ((0 : Int32), t20) else f7_part_p69 F t20 46 (nI v)) := by
      unfold f7_part_p41
      rw [gd_t (oL46 L), if_neg k91]
    have eM : f12_part_p36 G ρ 101 (nI v) = bd (f12_compares ρ 101) fun r28 t29 => f12_part_p84 G t29 101 (nI v) := by
      unfold f12_part_p36
      rw [gd_t (oL101 M), bd_s (isWell_w M m40), if_neg (by decide), bd_s s91, if_pos rfl]
    rcases compare_s C ho σ ρ k c l P (by omega) with ⟨σ2, ρ2, k2, c2, b1, b2, b3, b4, b5, b6, b7, b8, b9, b10⟩ | ⟨σ2, ρ2, b1, b2, b3, b9, b10⟩
    · obtain ⟨σ', ρ', k', c', r1, r2, r3⟩ := fin σ2 ρ2 k2 c2 b3 b4 b5 b6 b7 (Sg_mo b8 hn) b9 b10
      exact Or.inl ⟨σ', ρ', k', c', by rw [eC, bd_s b1, if_neg (by decide)]; exact r1, by rw [eM, bd_s b2]; exact r2, r3⟩
    · exact Or.inr ⟨σ2, ρ2, by rw [eC, bd_s b1, if_pos rfl], by rw [eM, bd_s b2, flt _ (FR_flt b3)], b3, b9, b10⟩
theorem part_lp {t : Nat → Int32} {s N nd ndr o : Nat} {F : St → Nat → Option (Int32 × St)} {G : St → Nat → Option (Unit × St)} (C : Ctx t s N) (ho : o ≤ 4) (hn : 4 + 2 * (4 - o) ≤ nd) (hr : o < 4 → ndr ≤ nd ∧ ESp t s N ndr true (o + 1) F G) (hG : ∀ ρ, Flt ρ → G ρ 101 = some ((), ρ)) : ∀ (j i f1 f2 v : Nat) (σ ρ : St) (k c l : Nat), N - k ≤ j → j < f1 → j < f2 → i ≤ k → v ≤ 1 → v ≤ i → PR t s N k c l o σ ρ → c + i ≤ k →
    (∃ σ' ρ' k' c', f7_part_p4 F f1 σ 46 (nI v) (nI i) = some (1, σ') ∧ f12_part_p2 G f2 ρ 101 (nI v) = some ((), ρ') ∧ PR t s N k' c' l o σ' ρ' ∧ k < k' ∧ c ≤ c' ∧ c' + k ≤ c + k' + i ∧ (∀ i, i < c → sI σ' 53 i = sI σ 53 i) ∧ Sg (sI σ' 53) l c c' nd true ∧ Fr Wpc σ σ' ∧ Fr Wpm ρ ρ') ∨
    (∃ σ' ρ', f7_part_p4 F f1 σ 46 (nI v) (nI i) = some (0, σ') ∧ f12_part_p2 G f2 ρ 101 (nI v) = some ((), ρ') ∧ FR σ' ρ' ∧ Fr Wpc σ σ' ∧ Fr Wpm ρ ρ') := by
  have N4 := C.2.2.1
  have fin : ∀ (f1 f2 i v : Nat) (σ ρ : St) (k c l : Nat), v ≤ 1 → v ≤ i → PR t s N k c l o σ ρ → c + i ≤ k → tkF t s (tpF t s k) ≠ 265 →
      (∃ σ' ρ' k' c', f7_part_p4 F (f1 + 1) σ 46 (nI v) (nI i) = some (1, σ') ∧ f12_part_p2 G (f2 + 1) ρ 101 (nI v) = some ((), ρ') ∧ PR t s N k' c' l o σ' ρ' ∧ k < k' ∧ c ≤ c' ∧ c' + k ≤ c + k' + i ∧ (∀ i, i < c → sI σ' 53 i = sI σ 53 i) ∧ Sg (sI σ' 53) l c c' nd true ∧ Fr Wpc σ σ' ∧ Fr Wpm ρ ρ') ∨
      (∃ σ' ρ', f7_part_p4 F (f1 + 1) σ 46 (nI v) (nI i) = some (0, σ') ∧ f12_part_p2 G (f2 + 1) ρ 101 (nI v) = some ((), ρ') ∧ FR σ' ρ' ∧ Fr Wpc σ σ' ∧ Fr Wpm ρ ρ') := by
    intro f1 f2 i v σ ρ k c l hv hvi P hc hne
    have L := P.1.1
    have M := P.2.2.1.1
    have kw : f12_isWord ρ 101 12 = some (if tkF t s (tpF t s k) = 265 then 1 else 0, ρ) := isKw_s (q := 9) C.1 C.2.1 M P.2.2.1.2.1 P.2.2.1.2.2.1 (by decide) (by decide) (by decide) pwS_k.2.2.2.2.2.2.2.2.2
    rw [if_neg hne] at kw
    have eC : f7_part_p4 F (f1 + 1) σ 46 (nI v) (nI i) = f7_part_p41 F σ 46 (nI v) := by
      rw [f7_part_p4, gd_t (oL46 L), P.2.1.2.2.1, if_neg hne]
      by_cases q : nI i < 400
      · rw [if_pos q]
      · rw [if_neg q]
    have eM : f12_part_p2 G (f2 + 1) ρ 101 (nI v) = f12_part_p36 G ρ 101 (nI v) := by
      rw [f12_part_p2, gd_t (oL101 M), bd_s (isWell_w M P.2.2.1.2.2.2.1), if_neg (by decide), bd_s kw, if_pos rfl]
    rw [eC, eM]
    rcases part41_s C ho hn hr hG hv P (show c + v ≤ k by omega) with ⟨σ', ρ', k', c', r1, r2, r3, r4, r5, r6, r7⟩ | h
    · exact Or.inl ⟨σ', ρ', k', c', r1, r2, r3, r4, r5, by omega, r7⟩
    · exact Or.inr h
  intro j
  induction j with
  | zero =>
    intro i f1 f2 v σ ρ k c l hj hf1 hf2 hi hv hvi P hc
    obtain ⟨f1, rfl, -⟩ := suc_of hf1
    obtain ⟨f2, rfl, -⟩ := suc_of hf2
    have kN := P.2.1.1
    have : k = N := by omega
    subst this
    exact fin f1 f2 i v σ ρ k c l hv hvi P hc (by rw [C.2.2.2.1]; unfold tkF; rw [if_neg (by omega)]; decide)
  | succ j ih =>
    intro i f1 f2 v σ ρ k c l hj hf1 hf2 hi hv hvi P hc
    obtain ⟨f1, rfl, hf1'⟩ := suc_of hf1
    obtain ⟨f2, rfl, hf2'⟩ := suc_of hf2
    by_cases hq : tkF t s (tpF t s k) = 265
    · have L := P.1.1
      have M := P.2.2.1.1
      have hk : k < N := tp_end C P.2.1.1 (by rw [hq]; decide)
      have kw : f12_isWord ρ 101 12 = some (if tkF t s (tpF t s k) = 265 then 1 else 0, ρ) := isKw_s (q := 9) C.1 C.2.1 M P.2.2.1.2.1 P.2.2.1.2.2.1 (by decide) (by decide) (by decide) pwS_k.2.2.2.2.2.2.2.2.2
      rw [if_pos hq] at kw
      obtain ⟨σ1, ρ1, a1, a2, a3, a4, a5, a6⟩ := PR_step C P hk
      have eC : f7_part_p4 F (f1 + 1) σ 46 (nI v) (nI i) = f7_part_p4 F f1 σ1 46 (nI (1 - v)) (nI (i + 1)) := by
        rw [f7_part_p4, if_pos (i400 (by omega)), gd_t (oL46 L), P.2.1.2.2.1, if_pos hq]
        unfold f7_part_p30
        rw [gd_t (oL46 L), bd_s a1, lt_b, nI_1]
        have : v = 0 ∨ v = 1 := by omega
        rcases this with rfl | rfl
        · rw [if_pos (show nI 0 = 0 from rfl)]; rfl
        · rw [if_neg (show ¬ nI 1 = 0 by decide), gd_t (oL46 L), bd_s a1, lt_b]; rfl
      have eM : f12_part_p2 G (f2 + 1) ρ 101 (nI v) = f12_part_p2 G f2 ρ1 101 (nI (1 - v)) := by
        rw [f12_part_p2, gd_t (oL101 M), bd_s (isWell_w M P.2.2.1.2.2.2.1), if_neg (by decide), bd_s kw, if_neg (by decide), bd_s a2]
        unfold f12_part_p32
        have : v = 0 ∨ v = 1 := by omega
        rcases this with rfl | rfl
        · rw [if_pos (show nI 0 = 0 from rfl)]; rfl
        · rw [if_neg (show ¬ nI 1 = 0 by decide)]; rfl
      rw [eC, eM]
      rcases ih (i + 1) f1 f2 (1 - v) σ1 ρ1 (k + 1) c l (by omega) (by omega) (by omega) (by omega) (by omega) (by omega) a3 (by omega) with ⟨σ', ρ', k', c', r1, r2, r3, r4, r5, r6, r7, r8, r9, r10⟩ | ⟨σ', ρ', r1, r2, r3, r9, r10⟩
      · exact Or.inl ⟨σ', ρ', k', c', r1, r2, r3, by omega, r5, by omega, fun q hq => by rw [r7 q hq, a6], r8, Fr_tr a4 r9, Fr_tr a5 r10⟩
      · exact Or.inr ⟨σ', ρ', r1, r2, r3, Fr_tr a4 r9, Fr_tr a5 r10⟩
    · exact fin f1 f2 i v σ ρ k c l hv hvi P hc hq
theorem part_s {t : Nat → Int32} {s N nd ndr o : Nat} {F : St → Nat → Option (Int32 × St)} {G : St → Nat → Option (Unit × St)} (C : Ctx t s N) (ho : o ≤ 4) (hn : 4 + 2 * (4 - o) ≤ nd) (hr : o < 4 → ndr ≤ nd ∧ ESp t s N ndr true (o + 1) F G) (hG : ∀ ρ, Flt ρ → G ρ 101 = some ((), ρ)) : ESp t s N nd true o (f7_part F) (f12_part G) := by
  intro σ ρ k c l P hc
  have N4 := C.2.2.1
  rcases part_lp C ho hn hr hG (N - k) 0 FU FU 0 σ ρ k c l (Nat.le_refl _) (by unfold FU; omega) (by unfold FU; omega) (Nat.zero_le _) (by decide) (Nat.le_refl _) P hc with ⟨σ', ρ', k', c', r1, r2, r3, r4, r5, r6, r7⟩ | h
  · exact Or.inl ⟨σ', ρ', k', c', r1, r2, r3, r4, r5, by omega, r7⟩
  · exact Or.inr h
theorem lg_op {op : Int32} (h : op = -8 ∨ op = -9) : isOp op true := by
  refine ⟨by rcases h with rfl | rfl <;> decide, by rcases h with rfl | rfl <;> decide, by rcases h with rfl | rfl <;> decide, fun _ => rfl, fun _ a d w => ?_⟩
  obtain ⟨w1, w2⟩ := w rfl
  rcases h with rfl | rfl
  · rcases w1 with rfl | rfl <;> rcases w2 with rfl | rfl <;> decide
  · rcases w1 with rfl | rfl <;> rcases w2 with rfl | rfl <;> decide
def kAnd (κ : Int32) : Option Int32 := if κ = 264 then some (-8) else none
def kOr (κ : Int32) : Option Int32 := if κ = 263 then some (-9) else none
theorem kAnd_k : ∀ κ op, kAnd κ = some op → κ ≠ -1 ∧ isOp op true := by
  intro κ op h
  unfold kAnd at h
  by_cases c : κ = 264
  · rw [if_pos c] at h
    rw [c]
    exact ⟨by decide, lg_op (Or.inl (Option.some.inj h).symm)⟩
  · rw [if_neg c] at h; cases h
theorem kOr_k : ∀ κ op, kOr κ = some op → κ ≠ -1 ∧ isOp op true := by
  intro κ op h
  unfold kOr at h
  by_cases c : κ = 263
  · rw [if_pos c] at h
    rw [c]
    exact ⟨by decide, lg_op (Or.inr (Option.some.inj h).symm)⟩
  · rw [if_neg c] at h; cases h
theorem both_c (F : St → Nat → Option (Int32 × St)) : LpC kAnd (f7_part F) (f7_both_p11 F) := by
  refine ⟨fun f σ i L hi h => ?_, fun f σ i op σ1 σ2 L hi h a1 a2 L1 => ?_, fun f σ i op σ1 σ2 σ3 L hi h a1 a2 L1 L2 a3 => ?_⟩ <;> unfold kAnd at h
  · by_cases c : sI σ 46 8 = 264
    · rw [if_pos c] at h; cases h
    · rw [f7_both_p11, if_pos (i400 hi), gd_t (oL46 L), if_neg c]
  · by_cases c : sI σ 46 8 = 264
    · rw [f7_both_p11, if_pos (i400 hi), gd_t (oL46 L), if_pos c, bd_s a1, bd_s a2, if_pos rfl]
    · rw [if_neg c] at h; cases h
  · by_cases c : sI σ 46 8 = 264
    · rw [if_pos c] at h
      have eo : (-8 : Int32) = op := Option.some.inj h
      rw [f7_both_p11, if_pos (i400 hi), gd_t (oL46 L), if_pos c, bd_s a1, bd_s a2, if_neg (by decide), lt_b, rL46_5 L2, gd_t nz_s, gd_t (oL52 L2), eo, bd_s a3, lt_b, nI_1]
    · rw [if_neg c] at h; cases h
theorem both_m {t : Nat → Int32} {s : Nat} (hs : s ≤ 400) (B : Byt t s) (G : St → Nat → Option (Unit × St)) : LpM t s kAnd (f12_part G) (f12_both_p4 G) := by
  refine ⟨fun f ρ h => bothL_f h G f, fun f ρ p M Tp Tk m40 h => ?_, fun f ρ p op ρ1 ρ2 ρ3 M Tp Tk m40 h a1 a2 M2 a3 => ?_⟩ <;> unfold kAnd at h
  · have kw : f12_isWord ρ 101 11 = some (if tkF t s p = 264 then 1 else 0, ρ) := isKw_s (q := 8) hs B M Tp Tk (by decide) (by decide) (by decide) pwS_k.2.2.2.2.2.2.2.2.1
    by_cases c : tkF t s p = 264
    · rw [if_pos c] at h; cases h
    · rw [f12_both_p4, gd_t (oL101 M), bd_s (isWell_w M m40), if_neg (by decide), bd_s kw, ite_B, if_neg c]
  · have kw : f12_isWord ρ 101 11 = some (if tkF t s p = 264 then 1 else 0, ρ) := isKw_s (q := 8) hs B M Tp Tk (by decide) (by decide) (by decide) pwS_k.2.2.2.2.2.2.2.2.1
    by_cases c : tkF t s p = 264
    · rw [if_pos c] at h
      rw [← Option.some.inj h, show mpF (-8) = -7 by decide] at a3
      rw [f12_both_p4, gd_t (oL101 M), bd_s (isWell_w M m40), if_neg (by decide), bd_s kw, ite_B, if_pos c, bd_s a1, bd_s a2, bd_s a3]
    · rw [if_neg c] at h; cases h
theorem condL_c (F : St → Nat → Option (Int32 × St)) : LpC kOr (f7_both F) (f7_cond_p11 F) := by
  refine ⟨fun f σ i L hi h => ?_, fun f σ i op σ1 σ2 L hi h a1 a2 L1 => ?_, fun f σ i op σ1 σ2 σ3 L hi h a1 a2 L1 L2 a3 => ?_⟩ <;> unfold kOr at h
  · by_cases c : sI σ 46 8 = 263
    · rw [if_pos c] at h; cases h
    · rw [f7_cond_p11, if_pos (i400 hi), gd_t (oL46 L), if_neg c]
  · by_cases c : sI σ 46 8 = 263
    · rw [f7_cond_p11, if_pos (i400 hi), gd_t (oL46 L), if_pos c, bd_s a1, bd_s a2, if_pos rfl]
    · rw [if_neg c] at h; cases h
  · by_cases c : sI σ 46 8 = 263
    · rw [if_pos c] at h
      have eo : (-9 : Int32) = op := Option.some.inj h
      rw [f7_cond_p11, if_pos (i400 hi), gd_t (oL46 L), if_pos c, bd_s a1, bd_s a2, if_neg (by decide), lt_b, rL46_5 L2, gd_t nz_s, gd_t (oL52 L2), eo, bd_s a3, lt_b, nI_1]
    · rw [if_neg c] at h; cases h
theorem condL_m {t : Nat → Int32} {s : Nat} (hs : s ≤ 400) (B : Byt t s) (G : St → Nat → Option (Unit × St)) : LpM t s kOr (f12_both G) (f12_cond_p4 G) := by
  refine ⟨fun f ρ h => condL_f h G f, fun f ρ p M Tp Tk m40 h => ?_, fun f ρ p op ρ1 ρ2 ρ3 M Tp Tk m40 h a1 a2 M2 a3 => ?_⟩ <;> unfold kOr at h
  · have kw : f12_isWord ρ 101 10 = some (if tkF t s p = 263 then 1 else 0, ρ) := isKw_s (q := 7) hs B M Tp Tk (by decide) (by decide) (by decide) pwS_k.2.2.2.2.2.2.2.1
    by_cases c : tkF t s p = 263
    · rw [if_pos c] at h; cases h
    · rw [f12_cond_p4, gd_t (oL101 M), bd_s (isWell_w M m40), if_neg (by decide), bd_s kw, ite_B, if_neg c]
  · have kw : f12_isWord ρ 101 10 = some (if tkF t s p = 263 then 1 else 0, ρ) := isKw_s (q := 7) hs B M Tp Tk (by decide) (by decide) (by decide) pwS_k.2.2.2.2.2.2.2.1
    by_cases c : tkF t s p = 263
    · rw [if_pos c] at h
      rw [← Option.some.inj h, show mpF (-9) = -8 by decide] at a3
      rw [f12_cond_p4, gd_t (oL101 M), bd_s (isWell_w M m40), if_neg (by decide), bd_s kw, ite_B, if_pos c, bd_s a1, bd_s a2, bd_s a3]
    · rw [if_neg c] at h; cases h
theorem condN_s {t : Nat → Int32} {s N : Nat} (C : Ctx t s N) : ∀ n o, o ≤ 4 → 6 ≤ n + o → ESp t s N (6 + 2 * (4 - o)) true o (f7_cond n) (f12_cond n) := by
  intro n
  induction n with
  | zero => intro o h1 h2; omega
  | succ n ih =>
    intro o h1 h2
    have hp : ESp t s N (4 + 2 * (4 - o)) true o (f7_part (f7_cond n)) (f12_part (f12_cond n)) := part_s (ndr := 6 + 2 * (4 - (o + 1))) C h1 (by omega) (fun h4 => ⟨by omega, ih (o + 1) (by omega) (by omega)⟩) (fun ρ hρ => by
      obtain ⟨m, rfl, -⟩ := suc_of (show 0 < n by omega)
      exact cond_f hρ m)
    have hb : ESp t s N (5 + 2 * (4 - o)) true o (f7_both (f7_cond n)) (f12_both (f12_cond n)) := op_all C (both_c _) (both_m C.1 C.2.1 _) kAnd_k hp (by omega) (fun σ σ1 L h => by unfold f7_both; rw [gd_t (oL46 L), bd_s h, if_pos rfl]) (fun σ σ1 L h => by unfold f7_both; rw [gd_t (oL46 L), bd_s h, if_neg (by decide)]) (fun ρ ρ1 M h => by unfold f12_both; rw [gd_t (oL101 M), bd_s h])
    exact op_all C (condL_c _) (condL_m C.1 C.2.1 _) kOr_k hb (by omega) (fun σ σ1 L h => by show f7_cond_b _ σ 46 = _; unfold f7_cond_b; rw [gd_t (oL46 L), bd_s h, if_pos rfl]) (fun σ σ1 L h => by show f7_cond_b _ σ 46 = _; unfold f7_cond_b; rw [gd_t (oL46 L), bd_s h, if_neg (by decide)]) (fun ρ ρ1 M h => by show f12_cond_b _ ρ 101 = _; unfold f12_cond_b; rw [gd_t (oL101 M), bd_s h])
