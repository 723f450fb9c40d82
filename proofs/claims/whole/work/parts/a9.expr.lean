/-! FACTORS, and rows of operands -/
def ESp (t : Nat → Int32) (s N nd : Nat) (b : Bool) (o : Nat) (F : St → Nat → Option (Int32 × St)) (G : St → Nat → Option (Unit × St)) : Prop :=
  ∀ (σ ρ : St) (k c l : Nat), PR t s N k c l o σ ρ → c ≤ k →
    (∃ σ' ρ' k' c', F σ 46 = some (1, σ') ∧ G ρ 101 = some ((), ρ') ∧ PR t s N k' c' l o σ' ρ' ∧ k < k' ∧ c ≤ c' ∧ c' + k ≤ c + k' ∧ (∀ i, i < c → sI σ' 53 i = sI σ 53 i) ∧ Sg (sI σ' 53) l c c' nd b ∧ Fr Wpc σ σ' ∧ Fr Wpm ρ ρ') ∨
    (∃ σ' ρ', F σ 46 = some (0, σ') ∧ G ρ 101 = some ((), ρ') ∧ FR σ' ρ' ∧ Fr Wpc σ σ' ∧ Fr Wpm ρ ρ')
theorem PR_mix {t : Nat → Int32} {s N k c l o : Nat} {σa σb ρa ρb : St} (A : PR t s N k c l o σa ρa) (B : PR t s N k c l o σb ρb) (e1 : ∀ q, sL σa 51 q = sL σb 51 q) (e2 : ∀ q, sI σa 53 q = sI σb 53 q) : PR t s N k c l o σa ρb := by
  refine ⟨A.1, A.2.1, B.2.2.1, ⟨fun i hi => by rw [e1]; exact B.2.2.2.1.1 i hi, fun i hi => ?_⟩, fun i hi => by rw [e2]; exact B.2.2.2.2 i hi⟩
  obtain ⟨z, z1, z2, z3, z4⟩ := B.2.2.2.1.2 i hi
  exact ⟨z, z1, z2, z3, by rw [e1]; exact z4⟩
theorem FR_w {σ ρ : St} (h : FR σ ρ) (x : Int32) : FR σ (wI ρ 101 43 x) := by
  obtain ⟨⟨L, M⟩, F, p, a1, a2, a3, a4, a5, a6, a7⟩ := h
  exact ⟨⟨L, Lay_wI M⟩, F, p, a1, a2, a3, a4, a5, by rw [sI_wk (by decide)]; exact a6, by rw [sI_wk (by decide)]; exact a7⟩
theorem fr_51 {σ σ' : St} (f : Fr Wpc σ σ') (L : Lay σ) (q : Nat) : sL σ' 51 q = sL σ 51 q := by
  have hN := L.2.2
  exact (f.2.2.1 51 q (by omega) (by unfold Wpc; omega)).2.1
theorem fr_43 {ρ : St} {x : Int32} : Fr Wpm ρ (wI ρ 101 43 x) := Fr_wI Fr_rf (Or.inl (by unfold Wpm; omega))
theorem valueHere_s {t : Nat → Int32} {s N k c l o : Nat} {σ ρ : St} (C : Ctx t s N) (P : PR t s N k c l o σ ρ) : f7_valueHere σ 46 = some (tvF t s (tpF t s k), σ) := by
  obtain ⟨⟨L, K, h6, T⟩, ⟨kN, h7, -⟩, -⟩ := P
  have N4 := C.2.2.1
  unfold f7_valueHere
  rw [gd_t (oL46 L), h7, if_neg (nI_pos (by omega)), lt_b, rL46_2 L, gd_t nz_s, gd_t (oL49 L), lL49 L, if_pos (show nI k < Int32.ofNat 401 from nI_lt (by omega) (by decide)), gd_t (inb_n (lL49 L) (by omega) (by decide)), ix_n (by omega), (T k (by omega)).2.2]
/-- a sign or a name is laid down and the token passed -/
theorem PR_put {t : Nat → Int32} {s N k c l o : Nat} {σ ρ : St} (C : Ctx t s N) (P : PR t s N k c l o σ ρ) (hk : k < N) (hc : c ≤ k) (x : Int32) (hx : ¬ x < 0) : ∃ σ1 ρ1 σ2 ρ2, f10_emit σ 52 x = some ((), σ1) ∧ f12_emits ρ 101 x = some ((), ρ1) ∧ f7_step σ1 46 = some ((), σ2) ∧ f12_next ρ1 101 = some ((), ρ2) ∧ sI ρ1 101 40 = 0 ∧ Lay σ1 ∧ Lay ρ1 ∧ PR t s N (k + 1) (c + 1) l o σ2 ρ2 ∧ (∀ i, i < c → sI σ2 53 i = sI σ 53 i) ∧ sI σ2 53 c = x ∧ Fr Wpc σ σ2 ∧ Fr Wpm ρ ρ2 := by
  have N4 := C.2.2.1
  obtain ⟨σ1, ρ1, a1, a2, a3, a4, a5, a6⟩ := PR_emit P (show c < 400 by omega) x
  obtain ⟨σ2, ρ2, b1, b2, b3, b4, b5, b6⟩ := PR_step C a3 hk
  rw [mp_pos hx] at a2
  refine ⟨σ1, ρ1, σ2, ρ2, a1, a2, b1, b2, a3.2.2.1.2.2.2.1, a3.1.1, a3.2.2.1.1, b3, fun i hi => ?_, ?_, Fr_tr a4 b4, Fr_tr a5 b5⟩
  · rw [b6, a6]; unfold up; rw [if_neg (by omega)]
  · rw [b6, a6]; unfold up; rw [if_pos rfl]
theorem factor_s {t : Nat → Int32} {s N nd ndr o : Nat} {F : St → Nat → Option (Int32 × St)} {G : St → Nat → Option (Unit × St)} (C : Ctx t s N) (ho : o ≤ 4) (h1 : 1 ≤ nd) (hr : o < 4 → ndr ≤ nd ∧ ESp t s N ndr false (o + 1) F G) (hG : ∀ ρ, Flt ρ → G ρ 101 = some ((), ρ)) : ESp t s N nd false o (f7_factor F) (f12_factor G) := by
  intro σ ρ k c l P hc
  have P' := P
  obtain ⟨⟨L, K, h6, T⟩, ⟨kN, h7, h8, h9, l6, h10, h5, h11, h12⟩, ⟨M, Tp, Tk, m40, m43, m44, m24⟩, R, co⟩ := P'
  have C' := C
  obtain ⟨hs, B, N4, tN, tq⟩ := C'
  have sg := fun d (hd : d < 128) => isSign_s (d := d) B M Tk hd
  -- neither a number nor a name nor a bracket
  have bad : sI σ 46 8 ≠ 40 → sI σ 46 8 ≠ -3 → sI σ 46 8 ≠ -4 → f12_factor G ρ 101 = f12_factor_p84 G ρ 101 → ∃ σ' ρ', f7_factor F σ 46 = some (0, σ') ∧ f12_factor G ρ 101 = some ((), ρ') ∧ FR σ' ρ' ∧ Fr Wpc σ σ' ∧ Fr Wpm ρ ρ' := by
    intro k1 k2 k3 eM
    obtain ⟨σ', ρ', a1, a2, a3, a4, a5⟩ := PR_fail (F := 1) C P (by decide) (by decide)
    refine ⟨σ', ρ', ?_, ?_, a3, a4, a5⟩
    · unfold f7_factor
      rw [gd_t (oL46 L), if_neg k1, if_neg k2, if_neg k3, show (1 : Int32) = nI 1 from rfl, bd_s a1, gd_t (by decide)]
    · rw [eM]
      unfold f12_factor_p84
      rw [gd_t (oL101 M), show (40 : Int32) = nI 40 from rfl, bd_s (sg 40 (by decide)), ite_B, if_neg (by rw [← h8]; exact k1), show (1 : Int32) = nI 1 from rfl, bd_s a2]
  have eM0 : sI ρ 101 38 ≠ 2 → sI ρ 101 38 ≠ 3 → f12_factor G ρ 101 = f12_factor_p84 G ρ 101 := fun q1 q2 => by
    unfold f12_factor
    rw [gd_t (oL101 M), bd_s (isWell_w M m40), if_neg (by decide), if_neg q1, if_neg q2]
  have so := Tk.2.2.1
  rcases tok_or (p := tpF t s k) B with ⟨a, b, -⟩ | ⟨a, b⟩ | ⟨a, b, v, nb⟩ | ⟨a, b⟩ | ⟨a, b, lt', -, -⟩
  · rw [a] at so
    rw [b] at h8
    exact Or.inr (bad (by rw [h8]; decide) (by rw [h8]; decide) (by rw [h8]; decide) (eM0 (by rw [so]; decide) (by rw [so]; decide)))
  · rw [a] at so
    rw [b] at h8
    exact Or.inr (bad (by rw [h8]; decide) (by rw [h8]; decide) (by rw [h8]; decide) (eM0 (by rw [so]; decide) (by rw [so]; decide)))
  · have hk : k < N := tp_end C kN (by rw [b]; decide)
    have x1 := Tk.2.2.2.1 a
    rw [a] at so
    rw [b] at h8
    generalize nmF t (tpF t s k) (teF t s (tpF t s k) - tpF t s k) = nm at v nb x1
    obtain ⟨σ1, ρ1, σ2, ρ2, a1, a2, a3, a4, a5, a6, a7, a8, a9, a10, a11, a12⟩ := PR_put C P hk hc (nI nm) (nI_pos (by omega))
    refine Or.inl ⟨σ2, ρ2, k + 1, c + 1, ?_, ?_, a8, by omega, by omega, by omega, a9, Sg_mo (Sg_num nb a10) h1, a11, a12⟩
    · unfold f7_factor
      rw [gd_t (oL46 L), h8, if_neg (by decide), if_pos rfl, lt_b, rL46_5 L, gd_t nz_s, bd_s (valueHere_s C P), v, lN_i, gd_t (oL52 L), bd_s a1, bd_s a3]
    · unfold f12_factor
      rw [gd_t (oL101 M), bd_s (isWell_w M m40), if_neg (by decide), so, if_pos rfl, x1, bd_s a2, bd_s a4]
  · have w3 := tok_3 B a
    rw [a] at so
    have eM : f12_factor G ρ 101 = bd (f12_isBarredWord ρ 101) fun r17 t18 => (if r17 = (0 : Int32) then bd (f12_name t18 101) fun r22 t23 => (if r22 = (-1 : Int32) then bd (f12_fails t23 101 (3 : Int32)) fun r27 t28 => f12_factor_p61 G t28 101 r22 else f12_factor_p61 G t23 101 r22) else f12_factor_p84 G t18 101) := by
      unfold f12_factor
      rw [gd_t (oL101 M), bd_s (isWell_w M m40), if_neg (by decide), so, if_neg (by decide), if_pos rfl]
    have bw := isBarredWord_s hs B M Tp Tk a
    rcases b with b | ⟨q, hq, b⟩
    · have hk : k < N := tp_end C kN (by rw [b]; decide)
      have vh := valueHere_s C P
      rw [w3.2.2.2.2.2.2.1] at vh
      have kn := known_t L h9 l6 (lN (wnF t s (tpF t s k)))
      have nm := name_s hs B M Tp Tk a R l6 m44
      rw [b, if_pos rfl] at bw
      rw [b] at h8
      have eC : f7_factor F σ 46 = bd (f7_known σ 46 (lN (wnF t s (tpF t s k)))) fun r30 t31 => (if r30 = (-1 : Int32) then bd (f7_refuse t31 46 (3 : Int32)) fun r35 t36 => gd (isB r35) (some (r35, t36)) else lt (sR t31 46 5) fun b40 => gd (nz b40) (gd (ob t31 b40 10) (bd (f10_emit t31 b40 ((10000 : Int32) + r30)) fun r44 t45 => bd (f7_step t45 46) fun r48 t49 => some ((1 : Int32), t49)))) := by
        unfold f7_factor
        rw [gd_t (oL46 L), h8, if_neg (by decide), if_neg (by decide), if_pos rfl, bd_s vh]
      rcases knS_sp (g := sL σ 51) (w := lN (wnF t s (tpF t s k))) (9 + l) 0 with ⟨e, -⟩ | ⟨q, -, q2, e, -⟩
      · rw [e] at kn nm
        obtain ⟨σ', ρ', a1, a2, a3, a4, a5⟩ := PR_fail (F := 3) C P (by decide) (by decide)
        have fl := FR_flt a3
        refine Or.inr ⟨σ', ρ', ?_, ?_, a3, a4, a5⟩
        · rw [eC, bd_s kn, if_pos rfl, show (3 : Int32) = nI 3 from rfl, bd_s a1, gd_t (by decide)]
        · rw [eM, bd_s bw, if_pos rfl, bd_s nm, if_pos rfl, show (3 : Int32) = nI 3 from rfl, bd_s a2]
          unfold f12_factor_p61
          rw [gd_t (oL101 fl.1), bd_s (emits_f fl _), bd_s (isWell_f fl), if_pos rfl]
      · rw [e] at kn nm
        have e1 : (10000 : Int32) + nI q = nI (10000 + q) := nI_add 10000 q
        obtain ⟨σ1, ρ1, σ2, ρ2, a1, a2, a3, a4, a5, a6, a7, a8, a9, a10, a11, a12⟩ := PR_put C P hk hc (nI (10000 + q)) (nI_pos (by omega))
        refine Or.inl ⟨σ2, ρ2, k + 1, c + 1, ?_, ?_, a8, by omega, by omega, by omega, a9, Sg_mo (Sg_name l6 (by omega) a10) h1, a11, a12⟩
        · rw [eC, bd_s kn, if_neg (nI_m1 (by omega)), lt_b, rL46_5 L, gd_t nz_s, gd_t (oL52 L), e1, bd_s a1, bd_s a3]
        · rw [eM, bd_s bw, if_pos rfl, bd_s nm, if_neg (nI_m1 (by omega))]
          unfold f12_factor_p61
          rw [gd_t (oL101 M), e1, bd_s a2, bd_s (isWell_w a7 a5), if_neg (by decide), bd_s a4]
    · have nn : ∀ x : Int32, x < 0 → ¬ nI (256 + q) = x := fun x hx e => nneg (d := 256 + q) (by omega) hx e.symm
      rw [b, if_neg (nn _ (by decide))] at bw
      rw [b] at h8
      refine Or.inr (bad (by rw [h8]; exact n256 (d := 40) (by decide) hq) (by rw [h8]; exact nn _ (by decide)) (by rw [h8]; exact nn _ (by decide)) ?_)
      rw [eM, bd_s bw, if_neg (by decide)]
  · obtain ⟨x, hx, hxe⟩ := B (tpF t s k) lt'
    rw [a] at so
    have eM := eM0 (by rw [so]; decide) (by rw [so]; decide)
    by_cases k40 : sI σ 46 8 = 40
    · have b40 : tkF t s (tpF t s k) = nI 40 := by rw [← h8]; exact k40
      have hk : k < N := tp_end C kN (by rw [b40]; decide)
      have s40 := sg 40 (by decide)
      rw [if_pos b40] at s40
      have eM2 : f12_factor G ρ 101 = bd (f12_opens ρ 101) fun r55 t56 => bd (G t56 101) fun r59 t60 => bd (f12_wantSign t60 101 (41 : Int32)) fun r63 t64 => lt (wI t64 101 43 ((sI t64 101 43) - (1 : Int32))) fun t67 => some ((), t67) := by
        rw [eM]
        unfold f12_factor_p84
        rw [gd_t (oL101 M), show (40 : Int32) = nI 40 from rfl, bd_s s40, if_neg (by decide)]
      have eC : f7_factor F σ 46 = bd (f7_bracketedSum F σ 46) fun r3 t4 => gd (isB r3) (some (r3, t4)) := by
        unfold f7_factor
        rw [gd_t (oL46 L), if_pos k40]
      by_cases o4 : o < 4
      · obtain ⟨hnd, H⟩ := hr o4
        obtain ⟨σ1, ρ1, a1, a2, a3, a4, a5, a6⟩ := PR_step C (PR_open P (o + 1)) hk
        have f0 : Fr Wpc σ (wI σ 46 10 (nI (o + 1))) := Fr_wI Fr_rf (Or.inl (by unfold Wpc; omega))
        have op : f12_opens ρ 101 = some ((), ρ1) := by
          unfold f12_opens f12_opens_p13
          rw [gd_t (oL101 M), m43, if_neg (show ¬ nI o = 4 from fun e => by have := (nI_eq (a := o) (b := 4) (by omega) (by omega)).mp e; omega), gd_t (oL101 M), bd_s (isWell_w M m40), if_neg (by decide), m43, nI_1, lt_b, bd_s a2]
        have bs : f7_bracketedSum F σ 46 = bd (F σ1 46) fun r9 t10 => (if r9 = (0 : Int32) then some ((0 : Int32), t10) else (if (sI t10 46 8) = (41 : Int32) then lt (wI t10 46 10 ((sI t10 46 10) - (1 : Int32))) fun t15 => bd (f7_step t15 46) fun r17 t18 => some ((1 : Int32), t18) else bd (f7_refuse t10 46 (1 : Int32)) fun r21 t22 => gd (isB r21) (some (r21, t22)))) := by
          unfold f7_bracketedSum
          rw [gd_t (oL46 L), h10, if_pos (show nI o < 4 from nI_lt (b := 4) o4 (by decide)), nI_1, lt_b, bd_s a1]
        have fc1 : Fr Wpc σ σ1 := Fr_tr f0 a4
        have fm1 : Fr Wpm ρ ρ1 := Fr_tr fr_43 a5
        have e531 : ∀ i, sI σ1 53 i = sI σ 53 i := fun i => by rw [a6, sI_wo (by decide)]
        rcases H σ1 ρ1 (k + 1) c l a3 (by omega) with ⟨σ2, ρ2, k2, c2, b1, b2, b3, b4, b5, b6, b7, b8, b9, b10⟩ | ⟨σ2, ρ2, b1, b2, b3, b9, b10⟩
        · have L2 := b3.1.1
          have M2 := b3.2.2.1.1
          have s41 := isSign_s (d := 41) B M2 b3.2.2.1.2.2.1 (by decide)
          have h8' := b3.2.1.2.2.1
          by_cases k41 : sI σ2 46 8 = 41
          · have b41 : tkF t s (tpF t s k2) = nI 41 := by rw [← h8']; exact k41
            have hk2 : k2 < N := tp_end C b3.2.1.1 (by rw [b41]; decide)
            rw [if_pos b41] at s41
            obtain ⟨σ3, ρx, c1, -, c3, c4, -, c6⟩ := PR_step C (PR_open b3 o) hk2
            obtain ⟨σx, ρ3, -, d2, d3, d4, d5, d6⟩ := PR_step C b3 hk2
            have d7 := PR_open d3 o
            have L2' : Lay (wI σ2 46 10 (nI o)) := Lay_wI L2
            have mix : PR t s N (k2 + 1) c2 l o σ3 (wI ρ3 101 43 (nI o)) := PR_mix c3 d7 (fun q => by rw [fr_51 c4 L2', sL_wIr, sL_wIr, fr_51 d4 L2]) (fun q => by rw [c6, sI_wo (by decide), sI_wo (by decide), d6])
            have fc3 : Fr Wpc σ σ3 := Fr_tr (Fr_tr fc1 b9) (Fr_tr (Fr_wI Fr_rf (Or.inl (by unfold Wpc; omega))) c4)
            have e3 : ∀ q, sI σ3 53 q = sI σ2 53 q := fun q => by rw [c6, sI_wo (by decide)]
            refine Or.inl ⟨σ3, wI ρ3 101 43 (nI o), k2 + 1, c2, ?_, ?_, mix, by omega, b5, by omega, fun i hi => by rw [e3, b7 i hi, e531], ?_, fc3, Fr_tr (Fr_tr fm1 b10) (Fr_tr d5 fr_43)⟩
            · rw [eC, bs, bd_s b1, if_neg (by decide), if_pos k41, b3.2.1.2.2.2.2.2.1, nI_pred, lt_b, bd_s c1, bd_1, gd_t (by decide)]
            · have ws : f12_wantSign ρ2 101 41 = some ((), ρ3) := by
                unfold f12_wantSign
                rw [gd_t (oL101 M2), bd_s (isWell_w M2 b3.2.2.1.2.2.2.1), if_neg (by decide), show (41 : Int32) = nI 41 from rfl, bd_s s41, if_neg (by decide), bd_s d2]
              rw [eM2, bd_s op, bd_s b2, bd_s ws, d3.2.2.1.2.2.2.2.1, nI_pred, lt_b]
            · rw [show sI σ3 53 = sI σ2 53 from funext e3]
              exact Sg_mo b8 hnd
          · obtain ⟨σ3, ρ3, c1, c2', c3, c4, c5⟩ := PR_fail (F := 1) C b3 (by decide) (by decide)
            rw [if_neg (by rw [← h8']; exact k41)] at s41
            refine Or.inr ⟨σ3, wI ρ3 101 43 (sI ρ3 101 43 - 1), ?_, ?_, FR_w c3 _, Fr_tr (Fr_tr fc1 b9) c4, Fr_tr (Fr_tr fm1 b10) (Fr_tr c5 fr_43)⟩
            · rw [eC, bs, bd_s b1, if_neg (by decide), if_neg k41, show (1 : Int32) = nI 1 from rfl, bd_s c1, gd_t (by decide), bd_1, gd_t (by decide)]
            · have ws : f12_wantSign ρ2 101 41 = some ((), ρ3) := by
                unfold f12_wantSign
                rw [gd_t (oL101 M2), bd_s (isWell_w M2 b3.2.2.1.2.2.2.1), if_neg (by decide), show (41 : Int32) = nI 41 from rfl, bd_s s41, if_pos rfl, show (1 : Int32) = nI 1 from rfl, bd_s c2']
              rw [eM2, bd_s op, bd_s b2, bd_s ws, lt_b]
        · have fl := FR_flt b3
          refine Or.inr ⟨σ2, wI ρ2 101 43 (sI ρ2 101 43 - 1), ?_, ?_, FR_w b3 _, Fr_tr fc1 b9, Fr_tr (Fr_tr fm1 b10) fr_43⟩
          · rw [eC, bs, bd_s b1, if_pos rfl, bd_1, gd_t (by decide)]
          · rw [eM2, bd_s op, bd_s b2, bd_s (wantSign_f fl _), lt_b]
      · have o4' : o = 4 := by omega
        obtain ⟨σ', ρ', a1, a2, a3, a4, a5⟩ := PR_fail (F := 4) C P (by decide) (by decide)
        have fl := FR_flt a3
        refine Or.inr ⟨σ', wI ρ' 101 43 (sI ρ' 101 43 - 1), ?_, ?_, FR_w a3 _, a4, Fr_tr a5 fr_43⟩
        · rw [eC]
          unfold f7_bracketedSum
          rw [gd_t (oL46 L), h10, if_neg (show ¬ nI o < 4 from nI_nlt (b := 4) (by omega) (by omega)), show (4 : Int32) = nI 4 from rfl, bd_s a1, gd_t (by decide), bd_1, gd_t (by decide)]
        · have op : f12_opens ρ 101 = some ((), ρ') := by
            unfold f12_opens f12_opens_p13
            rw [gd_t (oL101 M), m43, if_pos (show nI o = 4 by rw [o4']; rfl), show (4 : Int32) = nI 4 from rfl, bd_s a2, gd_t (oL101 fl.1), bd_s (isWell_f fl), if_pos rfl]
          rw [eM2, bd_s op, bd_s (hG ρ' fl), bd_s (wantSign_f fl _), lt_b]
    · have pos : ∀ y : Int32, y < 0 → sI σ 46 8 ≠ y := fun y hy e => by
        rw [h8, b, hxe] at e
        exact nneg (d := x) (by omega) hy e.symm
      exact Or.inr (bad k40 (pos _ (by decide)) (pos _ (by decide)) eM)
