/-! LET RULES, any rule -/
def letZ (ρ : St) : Option (Unit × St) := if (sI ρ 101 38) = (3 : Int32) then bd (f12_isBarredWord ρ 101) fun r7 t8 => (if r7 = (0 : Int32) then f12_readLet_p24 t8 101 (1 : Int32) else f12_readLet_p23 t8 101) else f12_readLet_p23 ρ 101
theorem nl_rm {l x k : Nat} (h : Wnl l x k) : Wrm x k := by unfold Wnl at h; unfold Wrm; omega
theorem p67_f {ρ : St} (fl : Flt ρ) : f12_readLet_p67 ρ 101 = some ((), ρ) := by
  unfold f12_readLet_p67
  rw [gd_t (oL101 fl.1), bd_s (isWell_f fl), if_pos rfl]
theorem let_s {t : Nat → Int32} {s N k c l r : Nat} {σ ρ : St} (C : Ctx t s N) (D : DQ σ ρ r c l) (hr : r < 20) (P : PR t s N k c l 0 σ ρ) (hck : c ≤ k) (H : RH ρ r c 256) : RuT t s N r k (l + 1) σ ρ (f7_letRule σ 46) (bd (letZ ρ) fun _ t => f12_readRule_p205 t 101 (nI (480 + r))) := by
  have P' := P
  obtain ⟨⟨L, K, h6, T⟩, ⟨kN, h7, h8, h9, l6, h10, h5, h11, h12⟩, ⟨M, Tp, Tk, m40, m43, m44, m24⟩, R, co⟩ := P'
  have hN := L.2.2
  have hM := M.2.2
  have hs := C.1
  have B := C.2.1
  have so := Tk.2.2.1
  have bad : ∀ σ' ρ2, f7_letRule σ 46 = some (0, σ') → letZ ρ = some ((), ρ2) → FR σ' ρ2 → Fr Wrc σ σ' → Fr Wrm ρ ρ2 → RuT t s N r k (l + 1) σ ρ (f7_letRule σ 46) (bd (letZ ρ) fun _ t => f12_readRule_p205 t 101 (nI (480 + r))) := by
    intro σ' ρ2 h1 h2 h3 h4 h5
    exact Or.inr ⟨σ', _, h1, by rw [bd_s h2, p205_f (FR_flt h3) hr], FR_out h3 (fr7 (v := sI ρ2 121 24) (j := r) (show 123 ≤ 127 by decide) (by decide)) (fun x q w => by unfold W7 at w; omega), h4, Fr_tr h5 (Fr_mo (fr7 (by decide) (by decide)) (fun _ _ => w7_rm))⟩
  have no : sI σ 46 8 ≠ -4 → letZ ρ = f12_readLet_p23 ρ 101 → RuT t s N r k (l + 1) σ ρ (f7_letRule σ 46) (bd (letZ ρ) fun _ t => f12_readRule_p205 t 101 (nI (480 + r))) := by
    intro h1 h2
    obtain ⟨σ', ρ', a1, a2, a3, a4, a5⟩ := PR_fail (F := 1) C P (by decide) (by decide)
    refine bad σ' ρ' ?_ ?_ a3 (Fr_mo a4 (fun _ _ => pc_rc)) (Fr_mo a5 (fun _ _ => pm_rm))
    · unfold f7_letRule
      rw [gd_t (oL46 L), if_neg h1, show (1 : Int32) = nI 1 from rfl, bd_s a1, gd_t (by decide)]
    · rw [h2]
      unfold f12_readLet_p23 f12_readLet_p24
      rw [if_pos rfl, gd_t (oL101 M), show (1 : Int32) = nI 1 from rfl, bd_s a2, p67_f (FR_flt a3)]
  by_cases c3 : soF t s (tpF t s k) = 3
  · have bw := isBarredWord_s hs B M Tp Tk c3
    have eZ : letZ ρ = bd (f12_isBarredWord ρ 101) fun r7 t8 => (if r7 = (0 : Int32) then f12_readLet_p24 t8 101 (1 : Int32) else f12_readLet_p23 t8 101) := by
      unfold letZ
      rw [so, c3, if_pos rfl]
    by_cases c4 : tkF t s (tpF t s k) = -4
    · have hk : k < N := tp_end C kN (by rw [c4]; decide)
      obtain ⟨w1, w2, w3, w4, w5, w6, w7, w8⟩ := tok_3 B c3
      have te := teF_sp (t := t) (tp_le C k)
      have vh := valueHere_s C P
      rw [w7] at vh
      have kn := known_t L h9 l6 (lN (wnF t s (tpF t s k)))
      have nm := name_s hs B M Tp Tk c3 R l6 m44
      rw [if_pos c4] at bw
      have eZ2 : letZ ρ = bd (f12_name ρ 101) fun r19 t20 => (if r19 = (-1 : Int32) then (if (sI t20 101 44) = (6 : Int32) then bd (f12_fails t20 101 (4 : Int32)) fun r25 t26 => f12_readLet_p67 t26 101 else f12_readLet_p67 t20 101) else bd (f12_fails t20 101 (3 : Int32)) fun r29 t30 => f12_readLet_p67 t30 101) := by
        rw [eZ, bd_s bw, if_pos rfl]
        unfold f12_readLet_p24
        rw [if_neg (by decide), gd_t (oL101 M)]
      have eC : f7_letRule σ 46 = bd (f7_known σ 46 (lN (wnF t s (tpF t s k)))) fun r7 t8 => (if r7 = (-1 : Int32) then (if (sI t8 46 9) < (6 : Int32) then bd (f7_step t8 46) fun r13 t14 => bd (f7_take t14 46 (61 : Int32)) fun r17 t18 => (if r17 = (0 : Int32) then some ((0 : Int32), t18) else bd (f7_sum 8 t18 46) fun r22 t23 => (if r22 = (0 : Int32) then some ((0 : Int32), t23) else lt ((9 : Int32) + (sI t23 46 9)) fun y27 => lt (sR t23 46 4) fun b29 => gd (nz b29) (gd (ob t23 b29 15) (gd (inb t23 b29 y27) (lt (wL t23 b29 (ix y27) (lN (wnF t s (tpF t s k)))) fun t34 => lt (wI t34 46 9 ((sI t34 46 9) + (1 : Int32))) fun t36 => bd (f7_closeRule t36 46 (256 : Int32) y27 (0 : Int32)) fun r38 t39 => gd (isB r38) (some (r38, t39))))))) else bd (f7_refuse t8 46 (4 : Int32)) fun r43 t44 => gd (isB r43) (some (r43, t44))) else bd (f7_refuse t8 46 (3 : Int32)) fun r48 t49 => gd (isB r48) (some (r48, t49))) := by
        unfold f7_letRule
        rw [gd_t (oL46 L), h8, if_pos c4, bd_s vh]
      rcases knS_sp (g := sL σ 51) (w := lN (wnF t s (tpF t s k))) (9 + l) 0 with ⟨e, -⟩ | ⟨q, -, q2, e, -⟩
      · rw [e] at kn nm
        rw [bd_s kn, if_pos rfl, h9] at eC
        rw [bd_s nm, if_pos rfl, m44] at eZ2
        by_cases c6 : l < 6
        · rw [if_pos (show nI l < 6 from nI_lt (b := 6) c6 (by decide))] at eC
          rw [if_neg (show ¬ nI l = 6 from fun x => by have := (nI_eq (a := l) (b := 6) (by omega) (by omega)).mp x; omega)] at eZ2
          obtain ⟨σ1, ρ1, a1, a2, a3, a4, a5, a6⟩ := PR_step C P hk
          rw [bd_s a1] at eC
          have e41 : sI ρ 101 36 - sI ρ 101 37 = nI (teF t s (tpF t s k) - tpF t s k) := by rw [Tk.2.1, Tk.1, pk_sub te.1]
          unfold f12_readLet_p67 at eZ2
          rw [gd_t (oL101 M), bd_s (isWell_w M m40), if_neg (by decide), lt_b, e41, Tk.1, lt_b, bd_s a2] at eZ2
          have f1 : Fr Wrc σ σ1 := Fr_mo a4 (fun _ _ => pc_rc)
          have g1 : Fr Wrm ρ ρ1 := Fr_mo a5 (fun _ _ => pm_rm)
          rcases tk_sign (d := 61) C a3 (by decide) with ⟨σ2, ρ2, b1, b2, b3, b4, b5, b6, b7⟩ | ⟨σ2, ρ2, b1, b2, b3, b6, b7⟩
          · have b1' : f7_take σ1 46 61 = some (1, σ2) := b1
            have b2' : f12_wantSign ρ1 101 61 = some ((), ρ2) := b2
            rw [bd_s b1', if_neg (by decide)] at eC
            rw [bd_s b2'] at eZ2
            have f2 : Fr Wrc σ σ2 := Fr_tr f1 (Fr_mo b6 (fun _ _ => pc_rc))
            have g2 : Fr Wrm ρ ρ2 := Fr_tr g1 (Fr_mo b7 (fun _ _ => pm_rm))
            rcases sumN_s C 8 0 (by decide) (by decide) σ2 ρ2 (k + 1 + 1) c l b3 (by omega) with ⟨σ3, ρ3, k3, c3', d1, d2, d3, d4, d5, d6, d7, d8, d9, d10⟩ | ⟨σ3, ρ3, d1, d2, d3, d9, d10⟩
            · have L3 := d3.1.1
              have M3 := d3.2.2.1.1
              have hM3 := M3.2.2
              have hN3 := L3.2.2
              have m43' := d3.2.2.1.2.2.2.1
              have m443 := d3.2.2.1.2.2.2.2.2.1
              have h93 := d3.2.1.2.2.2.1
              have n8 := w4
              have T3 := d3.2.2.1.2.1
              have g0 : Fr (Wnl l) ρ3 (wI ρ3 133 l (nI (teF t s (tpF t s k) - tpF t s k))) := Fr_wI Fr_rf (Or.inl (by unfold Wnl; omega))
              obtain ⟨ρ5, x1, x2, x3, x4, -, x6⟩ := copy_l hs (show tpF t s k + (teF t s (tpF t s k) - tpF t s k) ≤ s by omega) n8 c6 w5 (teF t s (tpF t s k) - tpF t s k) 0 FU (wI ρ3 133 l (nI (teF t s (tpF t s k) - tpF t s k))) (by omega) (by unfold FU; omega) (Lay_wI M3) (Tpm_Fr g0 M3 (fun x q hq => by unfold Wnl; omega) T3) (by rw [sI_wo (by decide)]; exact m443)
              have g5 : Fr (Wnl l) ρ3 ρ5 := Fr_tr g0 x2
              have P5 := PR_let d3 c6 n8 w5 g5 x3 (by rw [x6, sI_w1]) (fun q hq => x4 q (Nat.zero_le _) hq)
              have e9 : (9 : Int32) + nI l = nI (9 + l) := nI_add 9 l
              have f34 : Fr (fun x k => x = 51 ∧ 9 ≤ k ∨ x = 46 ∧ k = 9) σ3 (wI (wL σ3 51 (9 + l) (lN (pwF t (tpF t s k) (teF t s (tpF t s k) - tpF t s k)))) 46 9 (nI (l + 1))) := by
                refine Fr_wI (Fr_wL Fr_rf ?_) ?_ <;> exact Or.inl (by omega)
              have eC2 : f7_letRule σ 46 = bd (f7_closeRule (wI (wL σ3 51 (9 + l) (lN (pwF t (tpF t s k) (teF t s (tpF t s k) - tpF t s k)))) 46 9 (nI (l + 1))) 46 256 (nI (9 + l)) 0) fun r38 t39 => gd (isB r38) (some (r38, t39)) := by
                rw [eC, bd_s d1, if_neg (by decide), h93, e9, lt_b, lt_b, rL46_4 L3, gd_t nz_s, gd_t (oL51 L3), gd_t (inb_n (lL51 L3) (by omega) (by decide)), lt_b, sI_wLr, h93, nI_1, lt_b, ix_n (by omega)]
                rfl
              have eZ3 : letZ ρ = some ((), ρ5) := by
                rw [eZ2, bd_s d2, bd_s (isWell_w M3 m43'), if_neg (by decide), lt_b, rL101_46 M3, gd_t nz_s, gd_t (oL133 M3), m443, gd_t (inb_n (lL133 M3) c6 (by decide)), lt_b, ix_n (by omega)]
                exact x1
              generalize hσ4 : wI (wL σ3 51 (9 + l) (lN (pwF t (tpF t s k) (teF t s (tpF t s k) - tpF t s k)))) 46 9 (nI (l + 1)) = σ4 at P5 f34 eC2
              have fc : Fr Wpc σ σ3 := Fr_tr (Fr_tr a4 b6) d9
              have fm : Fr Wpm ρ ρ3 := Fr_tr (Fr_tr a5 b7) d10
              have kc : ∀ x q, 52 ≤ x → x ≤ 57 → ¬ Wpc x q → sI σ4 x q = sI σ x q := fun x q h1 h2 h3 => by rw [Fr_i f34 (by omega) (by omega), Fr_i fc (by omega) h3]
              have km : ∀ x q, 122 ≤ x → x ≤ 127 → sI ρ5 x q = sI ρ x q := fun x q h1 h2 => by rw [Fr_i g5 (by omega) (by unfold Wnl; omega), Fr_i fm (by omega) (by unfold Wpm; omega)]
              have e53 : ∀ q, sI σ4 53 q = sI σ3 53 q := fun q => Fr_i f34 (by omega) (by omega)
              have F4 : Fr Wrc σ σ4 := Fr_tr (Fr_mo fc (fun _ _ => pc_rc)) (Fr_mo f34 (fun x q h => by unfold Wrc; omega))
              have G5 : Fr Wrm ρ ρ5 := Fr_tr (Fr_mo fm (fun _ _ => pm_rm)) (Fr_mo g5 (fun _ _ => nl_rm))
              rw [bd_s eZ3, eC2]
              rcases close_s (A := nI (9 + l)) (B := 0) (kind := 256) C D hr P5 (by omega) d5 (RH_pm (RH_pm H M fm (fun x q w => by unfold Wpm at w; omega)) M3 g5 (fun x q w => by unfold Wnl at w; omega)) (fun i hi => by rw [e53, d7 i hi, b5, a6]) (fun i => ⟨kc _ _ (by omega) (by omega) (by unfold Wpc; omega), kc _ _ (by omega) (by omega) (by unfold Wpc; omega), kc _ _ (by omega) (by omega) (by unfold Wpc; omega), kc _ _ (by omega) (by omega) (by unfold Wpc; omega)⟩) (kc 52 6 (by omega) (by omega) (by unfold Wpc; omega)) (fun i _ => ⟨km _ _ (by omega) (by omega), km _ _ (by omega) (by omega), km _ _ (by omega) (by omega), km _ _ (by omega) (by omega), km _ _ (by omega) (by omega)⟩) (Or.inl rfl) (by rw [decide_eq_false (fun h => h rfl), show sI σ4 53 = sI σ3 53 from funext e53]; exact Sg_mo d8 (by decide)) (by rw [if_pos rfl]) (fun _ => rfl) (fun h => absurd h (by decide)) (fun h => absurd h (by decide)) with ⟨σ6, ρ6, z1, z2, z3, z4, z5, z6, z7⟩ | ⟨σ6, ρ6, z1, z2, z3, z6, z7⟩
              · exact Or.inl ⟨σ6, ρ6, k3 + 1, c3', by rw [bd_s z1, gd_t (by decide)], z2, z3, by omega, by omega, z4, z5, Fr_tr F4 z6, Fr_tr G5 z7⟩
              · exact Or.inr ⟨σ6, ρ6, by rw [bd_s z1, gd_t (by decide)], z2, z3, Fr_tr F4 z6, Fr_tr G5 z7⟩
            · have fl := FR_flt d3
              refine bad σ3 ρ3 ?_ ?_ d3 (Fr_tr f2 (Fr_mo d9 (fun _ _ => pc_rc))) (Fr_tr g2 (Fr_mo d10 (fun _ _ => pm_rm)))
              · rw [eC, bd_s d1, if_pos rfl]
              · rw [eZ2, bd_s d2, bd_s (isWell_f fl), if_pos rfl]
          · have b1' : f7_take σ1 46 61 = some (0, σ2) := b1
            have b2' : f12_wantSign ρ1 101 61 = some ((), ρ2) := b2
            have fl := FR_flt b3
            refine bad σ2 ρ2 ?_ ?_ b3 (Fr_tr f1 (Fr_mo b6 (fun _ _ => pc_rc))) (Fr_tr g1 (Fr_mo b7 (fun _ _ => pm_rm)))
            · rw [eC, bd_s b1', if_pos rfl]
            · rw [eZ2, bd_s b2', bd_s (sum_f fl 7), bd_s (isWell_f fl), if_pos rfl]
        · have l6' : l = 6 := by omega
          rw [if_neg (show ¬ nI l < 6 from nI_nlt (b := 6) (by omega) (by omega))] at eC
          rw [if_pos (show nI l = 6 by rw [l6']; rfl)] at eZ2
          obtain ⟨σ', ρ', a1, a2, a3, a4, a5⟩ := PR_fail (F := 4) C P (by decide) (by decide)
          refine bad σ' ρ' ?_ ?_ a3 (Fr_mo a4 (fun _ _ => pc_rc)) (Fr_mo a5 (fun _ _ => pm_rm))
          · rw [eC, show (4 : Int32) = nI 4 from rfl, bd_s a1, gd_t (by decide)]
          · rw [eZ2, show (4 : Int32) = nI 4 from rfl, bd_s a2, p67_f (FR_flt a3)]
      · rw [e] at kn nm
        obtain ⟨σ', ρ', a1, a2, a3, a4, a5⟩ := PR_fail (F := 3) C P (by decide) (by decide)
        refine bad σ' ρ' ?_ ?_ a3 (Fr_mo a4 (fun _ _ => pc_rc)) (Fr_mo a5 (fun _ _ => pm_rm))
        · rw [eC, bd_s kn, if_neg (nI_m1 (by omega)), show (3 : Int32) = nI 3 from rfl, bd_s a1, gd_t (by decide)]
        · rw [eZ2, bd_s nm, if_neg (nI_m1 (by omega)), show (3 : Int32) = nI 3 from rfl, bd_s a2, p67_f (FR_flt a3)]
    · rw [if_neg c4] at bw
      exact no (by rw [h8]; exact c4) (by rw [eZ, bd_s bw, if_neg (by decide)])
  · refine no ?_ (by unfold letZ; rw [if_neg (by rw [so]; exact c3)])
    rw [h8]
    rcases tok_or (p := tpF t s k) B with ⟨a, b, -⟩ | ⟨a, b⟩ | ⟨a, b, -⟩ | ⟨a, b⟩ | ⟨a, b, lt', -, -⟩
    · rw [b]; decide
    · rw [b]; decide
    · rw [b]; decide
    · exact absurd a c3
    · obtain ⟨x, hx, hxe⟩ := B (tpF t s k) lt'
      rw [b, hxe]
      exact fun e => nneg (d := x) (by omega) (x := -4) (by decide) e.symm
theorem rule_s {t : Nat → Int32} {s N k c l r : Nat} {σ ρ : St} (C : Ctx t s N) (D : DQ σ ρ r c l) (hr : r ≤ 20) (P : PR t s N k c l 0 σ ρ) (hck : c ≤ k) (h122 : sI ρ 122 24 = nI r) : ∃ l', RuT t s N r k l' σ ρ (f7_rule σ 46) (f12_readRule ρ 101) ∧ (r = 20 → ∃ σ', f7_rule σ 46 = some (0, σ')) := by
  have L := P.1.1
  have M := P.2.2.1.1
  have hM := M.2.2
  have m40 := P.2.2.1.2.2.2.1
  have h8 := P.2.1.2.2.1
  have kw := fun id q (h1 : id < 22) (h3 : 3 ≤ id) (hq : q < 10) (e : pwS id = kwL.getD q 0) => isKw_s (id := id) (q := q) C.1 C.2.1 M P.2.2.1.2.1 P.2.2.1.2.2.1 h1 h3 hq e
  have w0 : f12_isWord ρ 101 3 = some (if tkF t s (tpF t s k) = 256 then 1 else 0, ρ) := kw 3 0 (by decide) (by decide) (by decide) pwS_k.1
  have w1 : f12_isWord ρ 101 4 = some (if tkF t s (tpF t s k) = 257 then 1 else 0, ρ) := kw 4 1 (by decide) (by decide) (by decide) pwS_k.2.1
  have w2 : f12_isWord ρ 101 5 = some (if tkF t s (tpF t s k) = 258 then 1 else 0, ρ) := kw 5 2 (by decide) (by decide) (by decide) pwS_k.2.2.1
  have w3 : f12_isWord ρ 101 6 = some (if tkF t s (tpF t s k) = 259 then 1 else 0, ρ) := kw 6 3 (by decide) (by decide) (by decide) pwS_k.2.2.2.1
  have w5 : f12_isWord ρ 101 7 = some (if tkF t s (tpF t s k) = 261 then 1 else 0, ρ) := kw 7 5 (by decide) (by decide) (by decide) pwS_k.2.2.2.2.2.1
  generalize hκ : tkF t s (tpF t s k) = κ at w0 w1 w2 w3 w5 h8
  have eM : f12_readRule ρ 101 = f12_readRule_p71 ρ 101 (if κ = 256 then 0 else if κ = 257 then 1 else if κ = 258 then 2 else if κ = 259 then 3 else if κ = 261 then 4 else -1) := by
    unfold f12_readRule
    rw [gd_t (oL101 M), bd_s w0, ite_B, bd_s w1, ite_B, bd_s w2, ite_B, bd_s w3, ite_B, bd_s w5, ite_B]
    by_cases q0 : κ = 256
    · rw [if_pos q0, if_pos q0]
    rw [if_neg q0, if_neg q0]
    by_cases q1 : κ = 257
    · rw [if_pos q1, if_pos q1]
    rw [if_neg q1, if_neg q1]
    by_cases q2 : κ = 258
    · rw [if_pos q2, if_pos q2]
    rw [if_neg q2, if_neg q2]
    by_cases q3 : κ = 259
    · rw [if_pos q3, if_pos q3]
    rw [if_neg q3, if_neg q3]
    by_cases q5 : κ = 261
    · rw [if_pos q5, if_pos q5]
    rw [if_neg q5, if_neg q5]
  have p102f : ∀ ρ2 x, Flt ρ2 → f12_readRule_p102 ρ2 101 x = some ((), ρ2) := fun ρ2 x fl => by
    unfold f12_readRule_p102
    rw [gd_t (oL101 fl.1), bd_s (isWell_f fl), if_pos rfl]
  by_cases kk : κ = 256 ∨ κ = 257 ∨ κ = 258 ∨ κ = 259 ∨ κ = 261
  · have eC : f7_rule σ 46 = f7_rule_p46 σ 46 κ := by
      unfold f7_rule
      rw [gd_t (oL46 L), h8, lt_b]
      by_cases q0 : κ = 256
      · rw [if_pos q0]
      rw [if_neg q0]
      by_cases q1 : κ = 257
      · rw [if_pos q1]
      rw [if_neg q1]
      by_cases q2 : κ = 258
      · rw [if_pos q2]
      rw [if_neg q2]
      by_cases q3 : κ = 259
      · rw [if_pos q3]
      rw [if_neg q3, if_pos (by rcases kk with q | q | q | q | q; exact absurd q q0; exact absurd q q1; exact absurd q q2; exact absurd q q3; exact q)]
    have eK : (if κ = 256 then (0 : Int32) else if κ = 257 then 1 else if κ = 258 then 2 else if κ = 259 then 3 else if κ = 261 then 4 else -1) = kmF κ ∧ kmF κ ≠ -1 ∧ κ ≠ -1 := by
      rcases kk with q | q | q | q | q <;> rw [q] <;> decide
    rw [eK.1] at eM
    have i122 : inb ρ 122 (24 : Int32) = true := inb_n (k := 24) (lL122 M) (by decide) (by decide)
    have i121 : inb ρ 121 (24 : Int32) = true := inb_n (k := 24) (lL121 M) (by decide) (by decide)
    have x24 : ix (24 : Int32) = 24 := rfl
    have eM2 : f12_readRule ρ 101 = if nI r = 20 then bd (f12_fails ρ 101 (4 : Int32)) fun r40 t41 => f12_readRule_p102 t41 101 (kmF κ) else f12_readRule_p102 ρ 101 (kmF κ) := by
      rw [eM]
      unfold f12_readRule_p71
      rw [if_neg eK.2.1, gd_t (oL101 M), lt_b, rL101_25 M, gd_t nz_s, gd_t (oL122 M), gd_t i122, x24, h122]
    have eC2 : f7_rule σ 46 = if nI r < 20 then bd (f7_step σ 46) fun r20 t21 => (if κ = (256 : Int32) then bd (f7_letRule t21 46) fun r25 t26 => gd (isB r25) (some (r25, t26)) else (if κ = (259 : Int32) then bd (f7_tollRule t21 46) fun r31 t32 => gd (isB r31) (some (r31, t32)) else (if κ = (261 : Int32) then bd (f7_wayRule t21 46) fun r37 t38 => gd (isB r37) (some (r37, t38)) else tlC t21 κ 0 0))) else bd (f7_refuse σ 46 (4 : Int32)) fun r57 t58 => gd (isB r57) (some (r57, t58)) := by
      rw [eC]
      unfold f7_rule_p46
      rw [gd_t (oL46 L), lt_b, rL46_5 L, gd_t nz_s, gd_t (oL52 L), D.2.2.2.1]
      rfl
    by_cases r20 : r = 20
    · rw [if_neg (show ¬ nI r < 20 from nI_nlt (b := 20) (by omega) (by omega))] at eC2
      rw [if_pos (show nI r = 20 by rw [r20]; rfl)] at eM2
      obtain ⟨σ', ρ', a1, a2, a3, a4, a5⟩ := PR_fail (F := 4) C P (by decide) (by decide)
      have e : f7_rule σ 46 = some (0, σ') := by rw [eC2, show (4 : Int32) = nI 4 from rfl, bd_s a1, gd_t (by decide)]
      exact ⟨l, Or.inr ⟨σ', ρ', e, by rw [eM2, show (4 : Int32) = nI 4 from rfl, bd_s a2, p102f ρ' _ (FR_flt a3)], a3, Fr_mo a4 (fun _ _ => pc_rc), Fr_mo a5 (fun _ _ => pm_rm)⟩, fun _ => ⟨σ', e⟩⟩
    · have r20' : r < 20 := by omega
      have hk : k < N := tp_end C P.2.1.1 (by rw [hκ]; exact eK.2.2)
      rw [if_pos (show nI r < 20 from nI_lt (b := 20) r20' (by decide))] at eC2
      rw [if_neg (show ¬ nI r = 20 from fun w => r20 ((nI_eq (a := r) (b := 20) (by omega) (by omega)).mp w))] at eM2
      have m24 := P.2.2.1.2.2.2.2.2.2
      have e480 : (480 : Int32) + nI r = nI (480 + r) := nI_add 480 r
      have g0 : Fr (fun x k => 123 ≤ x ∧ x ≤ 127 ∧ k = 480 + r ∨ x = 122) ρ (wI (wI (wI ρ 122 24 (nI (r + 1))) 123 (480 + r) (kmF κ)) 126 (480 + r) (nI c)) := by
        refine Fr_wI (Fr_wI (Fr_wI Fr_rf ?_) ?_) ?_ <;> exact Or.inl (by omega)
      have g0' : Fr Wrm ρ (wI (wI (wI ρ 122 24 (nI (r + 1))) 123 (480 + r) (kmF κ)) 126 (480 + r) (nI c)) := by
        refine Fr_wI (Fr_wI (Fr_wI Fr_rf ?_) ?_) ?_ <;> exact Or.inl (by unfold Wrm; omega)
      have eM3 : f12_readRule ρ 101 = if kmF κ = (0 : Int32) then bd (f12_readLet (wI (wI (wI ρ 122 24 (nI (r + 1))) 123 (480 + r) (kmF κ)) 126 (480 + r) (nI c)) 101) fun r79 t80 => f12_readRule_p205 t80 101 (nI (480 + r)) else (if kmF κ = (3 : Int32) then bd (f12_readToll (wI (wI (wI ρ 122 24 (nI (r + 1))) 123 (480 + r) (kmF κ)) 126 (480 + r) (nI c)) 101 (nI (480 + r))) fun r84 t85 => f12_readRule_p194 t85 101 (nI (480 + r)) else (if kmF κ = (4 : Int32) then bd (f12_readWay (wI (wI (wI ρ 122 24 (nI (r + 1))) 123 (480 + r) (kmF κ)) 126 (480 + r) (nI c)) 101 (nI (480 + r))) fun r89 t90 => f12_readRule_p194 t90 101 (nI (480 + r)) else bd (f12_next (wI (wI (wI ρ 122 24 (nI (r + 1))) 123 (480 + r) (kmF κ)) 126 (480 + r) (nI c)) 101) fun r93 t94 => f12_readRule_p194 t94 101 (nI (480 + r)))) := by
        rw [eM2]
        unfold f12_readRule_p102
        rw [gd_t (oL101 M), bd_s (isWell_w M m40), if_neg (by decide)]
        simp (disch := omega) only [gd_1, lt_b, bd_1, nz_s, ob_wI, inb_wI, sR_wI, sK_wI, oL122 M, oL123 M, inb_n (lL123 M), oL126 M, inb_n (lL126 M), oL121 M, rL101_25 M, rL101_26 M, rL101_29 M, rL101_24 M, nz_t, ix_n, i122, i121, x24, h122, m24, e480, nI_1, sI_wo]
      have P1 := PR_out P (Fr_rf (W := fun x k => x = 52 ∧ k = 6 ∨ 54 ≤ x ∧ x ≤ 57)) g0 (fun _ _ h => h) (fun x k h => by omega)
      have D1 := DQ_7 D M g0
      have H1 : RH (wI (wI (wI ρ 122 24 (nI (r + 1))) 123 (480 + r) (kmF κ)) 126 (480 + r) (nI c)) r c κ := ⟨by rw [sI_wo (by decide), sI_wo (by decide), sI_w1], by rw [sI_wo (by decide), sI_w1], by rw [sI_w1]⟩
      generalize wI (wI (wI ρ 122 24 (nI (r + 1))) 123 (480 + r) (kmF κ)) 126 (480 + r) (nI c) = ρa at g0 g0' eM3 P1 D1 H1
      have Ma := P1.2.2.1.1
      obtain ⟨σ1, ρ1, a1, a2, a3, a4, a5, a6⟩ := PR_step C P1 hk
      have D2 := DQ_p D1 L Ma a4 a5 a6
      have H2 := RH_pm H1 Ma a5 (fun y q w => by unfold Wpm at w; omega)
      have F1 : Fr Wrc σ σ1 := Fr_mo a4 (fun _ _ => pc_rc)
      have G1 : Fr Wrm ρ ρ1 := Fr_tr g0' (Fr_mo a5 (fun _ _ => pm_rm))
      rw [bd_s a1] at eC2
      have M1 := a3.2.2.1.1
      -- the class hands the answer on
      have on : ∀ (X : Option (Int32 × St)) (Y : Option (Unit × St)) l', RuT t s N r (k + 1) l' σ1 ρ1 X Y → RuT t s N r (k + 1) l' σ1 ρ1 (bd X fun r25 t26 => gd (isB r25) (some (r25, t26))) Y := by
        intro X Y l' h
        rcases h with ⟨σ', ρ', k', c', h1, h2⟩ | ⟨σ', ρ', h1, h2⟩
        · exact Or.inl ⟨σ', ρ', k', c', by rw [bd_s h1, gd_t (by decide)], h2⟩
        · exact Or.inr ⟨σ', ρ', by rw [bd_s h1, gd_t (by decide)], h2⟩
      by_cases q0 : κ = 256
      · rw [if_pos q0] at eC2
        rw [if_pos (by rw [q0]; decide)] at eM3
        have eZ : f12_readLet ρa 101 = letZ ρ1 := by
          unfold f12_readLet letZ
          rw [gd_t (oL101 Ma), bd_s a2]
        rw [q0] at H2
        refine ⟨l + 1, ?_, fun h => absurd h r20⟩
        rw [eC2, eM3, eZ]
        exact RuT_from (on _ _ _ (let_s C D2 r20' a3 (by omega) H2)) (by omega) F1 G1
      rw [if_neg q0] at eC2
      rw [if_neg (show ¬ kmF κ = 0 by rcases kk with q | q | q | q | q; exact absurd q q0; all_goals rw [q]; decide)] at eM3
      by_cases q3 : κ = 259
      · rw [if_pos q3] at eC2
        rw [if_pos (by rw [q3]; decide)] at eM3
        have eZ : f12_readToll ρa 101 (nI (480 + r)) = tollZ ρ1 (nI (480 + r)) := by
          unfold f12_readToll tollZ
          rw [gd_t (oL101 Ma), bd_s a2, lt_b, rL101_27 M1, gd_t nz_s]
        rw [q3] at H2
        refine ⟨l, ?_, fun h => absurd h r20⟩
        rw [eC2, eM3, eZ]
        exact RuT_from (on _ _ _ (toll_s C D2 r20' a3 (by omega) H2)) (by omega) F1 G1
      rw [if_neg q3] at eC2
      rw [if_neg (show ¬ kmF κ = 3 by rcases kk with q | q | q | q | q; exact absurd q q0; (rw [q]; decide); (rw [q]; decide); exact absurd q q3; (rw [q]; decide))] at eM3
      by_cases q5 : κ = 261
      · rw [if_pos q5] at eC2
        rw [if_pos (by rw [q5]; decide)] at eM3
        rw [q5] at H2
        refine ⟨l, ?_, fun h => absurd h r20⟩
        have w := RuT_from (on _ _ _ (way_s C D2 r20' a3 (by omega) H2)) (show k ≤ k + 1 by omega) F1 G1
        rw [eC2, eM3]
        unfold f12_readWay
        rw [gd_t (oL101 Ma), bd_bd, bd_s a2, bd_lt, lt_b, rL101_27 M1, bd_gd, gd_t nz_s]
        simp only [bd_bd, bd_gd, bd_lt, bd_if]
        exact w
      rw [if_neg q5] at eC2
      rw [if_neg (show ¬ kmF κ = 4 by rcases kk with q | q | q | q | q; exact absurd q q0; (rw [q]; decide); (rw [q]; decide); exact absurd q q3; exact absurd q q5)] at eM3
      refine ⟨l, ?_, fun h => absurd h r20⟩
      rw [eC2, eM3, bd_s a2]
      have k4 : κ = 257 ∨ κ = 258 ∨ κ = 259 ∨ κ = 261 := by rcases kk with q | q | q | q | q; exact absurd q q0; exact Or.inl q; exact Or.inr (Or.inl q); exact Or.inr (Or.inr (Or.inl q)); exact Or.inr (Or.inr (Or.inr q))
      exact RuT_from (tail_s (A := 0) (B := 0) C D2 r20' a3 (by omega) H2 k4 (fun h => absurd h q3) (fun h => absurd h q5)) (by omega) F1 G1
  · obtain ⟨σ', ρ', a1, a2, a3, a4, a5⟩ := PR_fail (F := 1) C P (by decide) (by decide)
    have n0 : ¬ κ = 256 := fun q => kk (Or.inl q)
    have n1 : ¬ κ = 257 := fun q => kk (Or.inr (Or.inl q))
    have n2 : ¬ κ = 258 := fun q => kk (Or.inr (Or.inr (Or.inl q)))
    have n3 : ¬ κ = 259 := fun q => kk (Or.inr (Or.inr (Or.inr (Or.inl q))))
    have n5 : ¬ κ = 261 := fun q => kk (Or.inr (Or.inr (Or.inr (Or.inr q))))
    have eC : f7_rule σ 46 = some (0, σ') := by
      unfold f7_rule
      rw [gd_t (oL46 L), h8, lt_b, if_neg n0, if_neg n1, if_neg n2, if_neg n3, if_neg n5, show (1 : Int32) = nI 1 from rfl, bd_s a1, gd_t (by decide)]
    refine ⟨l, Or.inr ⟨σ', ρ', eC, ?_, a3, Fr_mo a4 (fun _ _ => pc_rc), Fr_mo a5 (fun _ _ => pm_rm)⟩, fun _ => ⟨σ', eC⟩⟩
    rw [eM, if_neg n0, if_neg n1, if_neg n2, if_neg n3, if_neg n5]
    unfold f12_readRule_p71
    rw [if_pos rfl, gd_t (oL101 M), show (1 : Int32) = nI 1 from rfl, bd_s a2, p102f ρ' _ (FR_flt a3)]
