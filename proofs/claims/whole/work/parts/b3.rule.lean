/-! A RULE -/
def tlC (σ : St) (kind A B : Int32) : Option (Int32 × St) := bd (f7_take σ 46 (262 : Int32)) fun r42 t43 => (if r42 = (0 : Int32) then some ((0 : Int32), t43) else bd (f7_cond 8 t43 46) fun r47 t48 => (if r47 = (0 : Int32) then some ((0 : Int32), t48) else bd (f7_closeRule t48 46 kind A B) fun r52 t53 => (if r52 = (0 : Int32) then some ((0 : Int32), t53) else some ((1 : Int32), t53))))
theorem p205_f {ρ : St} {r : Nat} (h : Flt ρ) (hr : r < 20) : f12_readRule_p205 ρ 101 (nI (480 + r)) = some ((), wI ρ 127 (480 + r) (sI ρ 121 24)) := by
  have M := h.1
  unfold f12_readRule_p205
  rw [gd_t (oL101 M), bd_s (wantSign_f h _), lt_b, rL101_30 M, gd_t nz_s, lt_b, rL101_24 M, gd_t nz_s, gd_t (oL121 M), show (24 : Int32) = nI 24 from rfl, gd_t (inb_n (lL121 M) (by decide) (by decide)), gd_t (oL127 M), gd_t (inb_n (lL127 M) (by omega) (by decide)), lt_b, ix_n (k := 24) (by decide), ix_n (k := 480 + r) (by omega)]
def W7 (x k : Nat) : Prop := 123 ≤ x ∧ x ≤ 127 ∧ 480 ≤ k
theorem w7_rm {x k : Nat} (h : W7 x k) : Wrm x k := by unfold W7 at h; unfold Wrm; omega
theorem fr7 {ρ : St} {x j : Nat} {v : Int32} (h1 : 123 ≤ x) (h2 : x ≤ 127) : Fr W7 ρ (wI ρ x (480 + j) v) := Fr_wI Fr_rf (Or.inl (by unfold W7; omega))
theorem p194_f {σ ρ : St} {r : Nat} (h : FR σ ρ) (hr : r < 20) : ∃ ρ', f12_readRule_p194 ρ 101 (nI (480 + r)) = some ((), ρ') ∧ FR σ ρ' ∧ Fr W7 ρ ρ' := by
  have fl := FR_flt h
  refine ⟨_, ?_, FR_out h (fr7 (v := sI ρ 121 24) (j := r) (show 123 ≤ 127 by decide) (by decide)) (fun x k w => by unfold W7 at w; omega), fr7 (by decide) (by decide)⟩
  unfold f12_readRule_p194
  rw [gd_t (oL101 fl.1), bd_s (wantWord_f fl _), bd_s (cond_f fl 7), p205_f fl hr]
/-- what comes of a rule -/
def RuT (t : Nat → Int32) (s N r k l' : Nat) (σ ρ : St) (X : Option (Int32 × St)) (Y : Option (Unit × St)) : Prop :=
  (∃ σ' ρ' k' c', X = some (1, σ') ∧ Y = some ((), ρ') ∧ PR t s N k' c' l' 0 σ' ρ' ∧ k < k' ∧ c' ≤ k' ∧ DQ σ' ρ' (r + 1) c' l' ∧ sI ρ' 122 24 = nI (r + 1) ∧ Fr Wrc σ σ' ∧ Fr Wrm ρ ρ') ∨
  (∃ σ' ρ', X = some (0, σ') ∧ Y = some ((), ρ') ∧ FR σ' ρ' ∧ Fr Wrc σ σ' ∧ Fr Wrm ρ ρ')
theorem RuT_from {t : Nat → Int32} {s N r k k0 l' : Nat} {σ ρ σ0 ρ0 : St} {X : Option (Int32 × St)} {Y : Option (Unit × St)} (h : RuT t s N r k l' σ ρ X Y) (hk : k0 ≤ k) (f : Fr Wrc σ0 σ) (g : Fr Wrm ρ0 ρ) : RuT t s N r k0 l' σ0 ρ0 X Y := by
  rcases h with ⟨σ', ρ', k', c', h1, h2, h3, h4, h5, h6, h7, h8, h9⟩ | ⟨σ', ρ', h1, h2, h3, h8, h9⟩
  · exact Or.inl ⟨σ', ρ', k', c', h1, h2, h3, by omega, h5, h6, h7, Fr_tr f h8, Fr_tr g h9⟩
  · exact Or.inr ⟨σ', ρ', h1, h2, h3, Fr_tr f h8, Fr_tr g h9⟩
theorem tail_s {t : Nat → Int32} {s N k c l r : Nat} {kind A B : Int32} {σ ρ : St} (C : Ctx t s N) (D : DQ σ ρ r c l) (hr : r < 20) (P : PR t s N k c l 0 σ ρ) (hck : c ≤ k) (H : RH ρ r c kind) (k5 : kind = 257 ∨ kind = 258 ∨ kind = 259 ∨ kind = 261) (q2 : kind = 259 → 0 < B.toInt ∧ sI ρ 124 (480 + r) = A ∧ sI ρ 125 (480 + r) = B) (q3 : kind = 261 → (0 ≤ A.toInt ∧ A.toInt ≤ 6) ∧ sI ρ 124 (480 + r) = A) : RuT t s N r k l σ ρ (tlC σ kind A B) (f12_readRule_p194 ρ 101 (nI (480 + r))) := by
  have M := P.2.2.1.1
  have L := P.1.1
  have hN := L.2.2
  have hM := M.2.2
  have kne : kind ≠ 256 := by rcases k5 with h | h | h | h <;> rw [h] <;> decide
  have eM : ∀ ρ1, f12_wantWord ρ 101 9 = some ((), ρ1) → f12_readRule_p194 ρ 101 (nI (480 + r)) = bd (f12_cond 8 ρ1 101) fun r119 t120 => f12_readRule_p205 t120 101 (nI (480 + r)) := fun ρ1 h => by
    unfold f12_readRule_p194
    rw [gd_t (oL101 M), bd_s h]
  rcases tk_word (id := 9) (q := 6) C P (by decide) (by decide) (by decide) pwS_k.2.2.2.2.2.2.1 with ⟨σ1, ρ1, a1, a2, a3, a4, a5, a6, a7⟩ | ⟨σ1, ρ1, a1, a2, a3, a6, a7⟩
  · have a1' : f7_take σ 46 262 = some (1, σ1) := a1
    rcases condN_s C 8 0 (by decide) (by decide) σ1 ρ1 (k + 1) c l a3 (by omega) with ⟨σ2, ρ2, k2, c2, b1, b2, b3, b4, b5, b6, b7, b8, b9, b10⟩ | ⟨σ2, ρ2, b1, b2, b3, b9, b10⟩
    · have fc := Fr_tr a6 b9
      have fm := Fr_tr a7 b10
      have kc : ∀ x q, 54 ≤ x → x ≤ 57 → sI σ2 x q = sI σ x q := fun x q h1 h2 => Fr_i fc (by omega) (by unfold Wpc; omega)
      have km : ∀ x q, 122 ≤ x → x ≤ 127 → sI ρ2 x q = sI ρ x q := fun x q h1 h2 => Fr_i fm (by omega) (by unfold Wpm; omega)
      rcases close_s (A := A) (B := B) (kind := kind) C D hr b3 (by omega) b5 (RH_pm H M fm (fun x q w => by unfold Wpm at w; omega)) (fun i hi => by rw [b7 i hi, a5]) (fun i => ⟨kc _ _ (by omega) (by omega), kc _ _ (by omega) (by omega), kc _ _ (by omega) (by omega), kc _ _ (by omega) (by omega)⟩) (Fr_i fc (by omega) (by unfold Wpc; omega)) (fun i _ => ⟨km _ _ (by omega) (by omega), km _ _ (by omega) (by omega), km _ _ (by omega) (by omega), km _ _ (by omega) (by omega), km _ _ (by omega) (by omega)⟩) (Or.inr k5) (by rw [decide_eq_true kne]; exact Sg_mo b8 (by decide)) (by rw [if_neg kne]) (fun h => absurd h kne) (fun h => by rw [km 124 _ (by omega) (by omega), km 125 _ (by omega) (by omega)]; exact q2 h) (fun h => by rw [km 124 _ (by omega) (by omega)]; exact q3 h) with ⟨σ3, ρ3, d1, d2, d3, d4, d5, d6, d7⟩ | ⟨σ3, ρ3, d1, d2, d3, d6, d7⟩
      · refine Or.inl ⟨σ3, ρ3, k2 + 1, c2, ?_, ?_, d3, by omega, by omega, d4, d5, Fr_tr (Fr_mo fc (fun _ _ => pc_rc)) d6, Fr_tr (Fr_mo fm (fun _ _ => pm_rm)) d7⟩
        · unfold tlC
          rw [bd_s a1', if_neg (by decide), bd_s b1, if_neg (by decide), bd_s d1, if_neg (by decide)]
        · rw [eM ρ1 a2, bd_s b2, d2]
      · refine Or.inr ⟨σ3, ρ3, ?_, ?_, d3, Fr_tr (Fr_mo fc (fun _ _ => pc_rc)) d6, Fr_tr (Fr_mo fm (fun _ _ => pm_rm)) d7⟩
        · unfold tlC
          rw [bd_s a1', if_neg (by decide), bd_s b1, if_neg (by decide), bd_s d1, if_pos rfl]
        · rw [eM ρ1 a2, bd_s b2, d2]
    · have fl := FR_flt b3
      refine Or.inr ⟨σ2, _, ?_, ?_, FR_out b3 (fr7 (v := sI ρ2 121 24) (j := r) (show 123 ≤ 127 by decide) (by decide)) (fun x q w => by unfold W7 at w; omega), Fr_mo (Fr_tr a6 b9) (fun _ _ => pc_rc), Fr_tr (Fr_mo (Fr_tr a7 b10) (fun _ _ => pm_rm)) (Fr_mo (fr7 (by decide) (by decide)) (fun _ _ => w7_rm))⟩
      · unfold tlC
        rw [bd_s a1', if_neg (by decide), bd_s b1, if_pos rfl]
      · rw [eM ρ1 a2, bd_s b2, p205_f fl hr]
  · have a1' : f7_take σ 46 262 = some (0, σ1) := a1
    have fl := FR_flt a3
    refine Or.inr ⟨σ1, _, ?_, ?_, FR_out a3 (fr7 (v := sI ρ1 121 24) (j := r) (show 123 ≤ 127 by decide) (by decide)) (fun x q w => by unfold W7 at w; omega), Fr_mo a6 (fun _ _ => pc_rc), Fr_tr (Fr_mo a7 (fun _ _ => pm_rm)) (Fr_mo (fr7 (by decide) (by decide)) (fun _ _ => w7_rm))⟩
    · unfold tlC
      rw [bd_s a1', if_pos rfl]
    · rw [eM ρ1 a2, bd_s (cond_f fl 7), p205_f fl hr]
/-! numbers that rules name -/
theorem number_f {ρ : St} (h : Flt ρ) : f12_number ρ 101 = some (0, ρ) := by
  unfold f12_number f12_number_p20
  rw [gd_t (oL101 h.1), bd_s (isWell_f h), if_pos rfl, gd_t (oL101 h.1), bd_s (isWell_f h), if_pos rfl]
theorem num_s {t : Nat → Int32} {s N k c l o : Nat} {σ ρ : St} (C : Ctx t s N) (P : PR t s N k c l o σ ρ) :
    (∃ v, v < 10000 ∧ sI σ 46 8 = -3 ∧ k < N ∧ f7_valueHere σ 46 = some (lN v, σ) ∧ f12_number ρ 101 = some (nI v, ρ)) ∨
    (∃ σ' ρ' w, sI σ 46 8 ≠ -3 ∧ f7_valueHere σ 46 = some (w, σ) ∧ f7_take σ 46 (-3) = some (0, σ') ∧ f12_number ρ 101 = some (0, ρ') ∧ FR σ' ρ' ∧ Fr Wpc σ σ' ∧ Fr Wpm ρ ρ') := by
  have L := P.1.1
  have M := P.2.2.1.1
  have Tk := P.2.2.1.2.2.1
  have m40 := P.2.2.1.2.2.2.1
  have h8 := P.2.1.2.2.1
  have vh := valueHere_s C P
  have so := Tk.2.2.1
  have bad : sI σ 46 8 ≠ -3 → sI ρ 101 38 ≠ 2 → ∃ σ' ρ' w, sI σ 46 8 ≠ -3 ∧ f7_valueHere σ 46 = some (w, σ) ∧ f7_take σ 46 (-3) = some (0, σ') ∧ f12_number ρ 101 = some (0, ρ') ∧ FR σ' ρ' ∧ Fr Wpc σ σ' ∧ Fr Wpm ρ ρ' := by
    intro h1 h2
    obtain ⟨σ', ρ', a1, a2, a3, a4, a5⟩ := PR_fail (F := 1) C P (by decide) (by decide)
    have fl := FR_flt a3
    refine ⟨σ', ρ', _, h1, vh, ?_, ?_, a3, a4, a5⟩
    · unfold f7_take
      rw [gd_t (oL46 L), if_neg h1, show (1 : Int32) = nI 1 from rfl, bd_s a1, gd_t (by decide)]
    · unfold f12_number f12_number_p20
      rw [gd_t (oL101 M), bd_s (isWell_w M m40), if_neg (by decide), if_neg h2, show (1 : Int32) = nI 1 from rfl, bd_s a2, gd_t (oL101 fl.1), bd_s (isWell_f fl), if_pos rfl]
  have nn : ∀ d, d < 2147483648 → nI d ≠ -3 := fun d hd e => nneg hd (x := -3) (by decide) e.symm
  rcases tok_or (p := tpF t s k) C.2.1 with ⟨a, b, -⟩ | ⟨a, b⟩ | ⟨a, b, v, nb⟩ | ⟨a, b⟩ | ⟨a, b, lt', -, -⟩
  · exact Or.inr (bad (by rw [h8, b]; decide) (by rw [so, a]; decide))
  · exact Or.inr (bad (by rw [h8, b]; decide) (by rw [so, a]; decide))
  · have x1 := Tk.2.2.2.1 a
    rw [v] at vh
    refine Or.inl ⟨_, nb, by rw [h8, b], tp_end C P.2.1.1 (by rw [b]; decide), vh, ?_⟩
    unfold f12_number f12_number_p20
    rw [gd_t (oL101 M), bd_s (isWell_w M m40), if_neg (by decide), so, a, if_pos rfl, gd_t (oL101 M), bd_s (isWell_w M m40), if_neg (by decide), x1]
  · refine Or.inr (bad ?_ (by rw [so, a]; decide))
    rw [h8]
    rcases b with b | ⟨q, hq, b⟩
    · rw [b]; decide
    · rw [b]; exact nn _ (by omega)
  · refine Or.inr (bad ?_ (by rw [so, a]; decide))
    obtain ⟨x, hx, hxe⟩ := C.2.1 (tpF t s k) lt'
    rw [h8, b, hxe]
    exact nn _ (by omega)
theorem DQ_7 {σ ρ ρ' : St} {r c l : Nat} (D : DQ σ ρ r c l) (M : Lay ρ) (g : Fr (fun x k => 123 ≤ x ∧ x ≤ 127 ∧ k = 480 + r ∨ x = 122) ρ ρ') : DQ σ ρ' r c l := by
  have hM := M.2.2
  exact DQ_lo (fun _ _ => rfl) (fun _ _ => ⟨rfl, rfl, rfl, rfl⟩) rfl (fun i hi => ⟨Fr_i g (by omega) (by omega), Fr_i g (by omega) (by omega), Fr_i g (by omega) (by omega), Fr_i g (by omega) (by omega), Fr_i g (by omega) (by omega)⟩) D
theorem DQ_p {σ ρ σ' ρ' : St} {r c l : Nat} (D : DQ σ ρ r c l) (L : Lay σ) (M : Lay ρ) (f : Fr Wpc σ σ') (g : Fr Wpm ρ ρ') (e : sI σ' 53 = sI σ 53) : DQ σ' ρ' r c l := by
  have hN := L.2.2
  have hM := M.2.2
  have kc : ∀ x q, 54 ≤ x → x ≤ 57 → sI σ' x q = sI σ x q := fun x q h1 h2 => Fr_i f (by omega) (by unfold Wpc; omega)
  have km : ∀ x q, 122 ≤ x → x ≤ 127 → sI ρ' x q = sI ρ x q := fun x q h1 h2 => Fr_i g (by omega) (by unfold Wpm; omega)
  exact DQ_lo (fun i _ => by rw [e]) (fun i _ => ⟨kc _ _ (by omega) (by omega), kc _ _ (by omega) (by omega), kc _ _ (by omega) (by omega), kc _ _ (by omega) (by omega)⟩) (Fr_i f (by omega) (by unfold Wpc; omega)) (fun i _ => ⟨km _ _ (by omega) (by omega), km _ _ (by omega) (by omega), km _ _ (by omega) (by omega), km _ _ (by omega) (by omega), km _ _ (by omega) (by omega)⟩) D
/-- a number of the rule at hand is kept, its token passed -/
theorem put7 {t : Nat → Int32} {s N k c l r x : Nat} {kind : Int32} {v : Int32} {σ ρ : St} (C : Ctx t s N) (D : DQ σ ρ r c l) (P : PR t s N k c l 0 σ ρ) (H : RH ρ r c kind) (hk : k < N) (hx : x = 124 ∨ x = 125) : PR t s N k c l 0 σ (wI ρ x (480 + r) v) ∧ ∃ σ' ρ', f7_step σ 46 = some ((), σ') ∧ f12_next (wI ρ x (480 + r) v) 101 = some ((), ρ') ∧ PR t s N (k + 1) c l 0 σ' ρ' ∧ DQ σ' ρ' r c l ∧ RH ρ' r c kind ∧ sI ρ' x (480 + r) = v ∧ (∀ y, y = 124 ∨ y = 125 → y ≠ x → sI ρ' y (480 + r) = sI ρ y (480 + r)) ∧ Fr Wpc σ σ' ∧ Fr Wrm ρ ρ' := by
  have M := P.2.2.1.1
  have L := P.1.1
  have hM := M.2.2
  have g0 : Fr (fun x k => 123 ≤ x ∧ x ≤ 127 ∧ k = 480 + r ∨ x = 122) ρ (wI ρ x (480 + r) v) := Fr_wI Fr_rf (Or.inl (by omega))
  have P1 : PR t s N k c l 0 σ (wI ρ x (480 + r) v) := PR_out P (Fr_rf (W := fun x k => x = 52 ∧ k = 6 ∨ 54 ≤ x ∧ x ≤ 57)) g0 (fun _ _ h => h) (fun x k h => by omega)
  have M1 : Lay (wI ρ x (480 + r) v) := Lay_wI M
  have hM1 := M1.2.2
  obtain ⟨σ', ρ', a1, a2, a3, a4, a5, a6⟩ := PR_step C P1 hk
  refine ⟨P1, σ', ρ', a1, a2, a3, DQ_p (DQ_7 D M g0) L M1 a4 a5 a6, RH_pm (RH_pm H M (W := fun y _ => y = x) (Fr_wI Fr_rf (Or.inl rfl)) (fun y q w => by omega)) M1 a5 (fun y q w => by unfold Wpm at w; omega), ?_, fun y hy hne => ?_, a4, Fr_tr (Fr_wI Fr_rf (Or.inl (by unfold Wrm; omega))) (Fr_mo a5 (fun _ _ => pm_rm))⟩
  · rw [Fr_i a5 (by omega) (by unfold Wpm; omega), sI_w1]
  · rw [Fr_i a5 (by omega) (by unfold Wpm; omega), sI_wo hne]
theorem take3 {σ σ' : St} (L : Lay σ) (h8 : sI σ 46 8 = -3) (a : f7_step σ 46 = some ((), σ')) : f7_take σ 46 (-3) = some (1, σ') := by
  unfold f7_take
  rw [gd_t (oL46 L), if_pos h8, bd_s a]
theorem way_s {t : Nat → Int32} {s N k c l r : Nat} {σ ρ : St} (C : Ctx t s N) (D : DQ σ ρ r c l) (hr : r < 20) (P : PR t s N k c l 0 σ ρ) (hck : c ≤ k) (H : RH ρ r c 261) : RuT t s N r k l σ ρ (f7_wayRule σ 46) (bd (f12_number ρ 101) fun r9 t10 => gd (ob t10 124 14) (gd (inb t10 124 (nI (480 + r))) (lt (wI t10 124 (ix (nI (480 + r))) r9) fun t15 => bd (f12_isWell t15 101) fun r17 t18 => (if r17 = (0 : Int32) then bd (f12_readWay_p37 t18 101) fun _ t90 => f12_readRule_p194 t90 101 (nI (480 + r)) else lt (sR t18 101 27) fun b22 => gd (nz b22) (gd (ob t18 b22 14) (gd (inb t18 b22 (nI (480 + r))) (if (sI t18 b22 (ix (nI (480 + r)))) ≤ (6 : Int32) then bd (f12_readWay_p37 t18 101) fun _ t90 => f12_readRule_p194 t90 101 (nI (480 + r)) else bd (f12_fails t18 101 (2 : Int32)) fun r28 t29 => bd (f12_readWay_p37 t29 101) fun _ t90 => f12_readRule_p194 t90 101 (nI (480 + r)))))))))  := by
  have L := P.1.1
  have M := P.2.2.1.1
  have p37f : ∀ ρ2, Flt ρ2 → f12_readWay_p37 ρ2 101 = some ((), ρ2) := fun ρ2 fl => by
    unfold f12_readWay_p37
    rw [gd_t (oL101 fl.1), bd_s (isWell_f fl), if_pos rfl]
  rcases num_s C P with ⟨v, v4, h8, hk, vh, nm⟩ | ⟨σ1, ρ1, w, h8, vh, tk, nm, fr, f1, g1⟩
  · obtain ⟨P1, σ2, ρ2, a1, a2, a3, a4, a5, a6, -, a8, a9⟩ := put7 (x := 124) (v := nI v) C D P H hk (Or.inl rfl)
    have M1 := P1.2.2.1.1
    have m40 := P1.2.2.1.2.2.2.1
    rw [bd_s nm, gd_t (oL124 M), gd_t (inb_n (lL124 M) (by omega) (by decide)), lt_b, ix_n (by omega), bd_s (isWell_w M1 m40), if_neg (by decide), lt_b, rL101_27 M1, gd_t nz_s, gd_t (oL124 M1), gd_t (inb_n (lL124 M1) (by omega) (by decide)), sI_w1]
    by_cases c6 : v ≤ 6
    · have p37 : f12_readWay_p37 (wI ρ 124 (480 + r) (nI v)) 101 = some ((), ρ2) := by
        unfold f12_readWay_p37
        rw [gd_t (oL101 M1), bd_s (isWell_w M1 m40), if_neg (by decide), bd_s a2]
      have eC : f7_wayRule σ 46 = tlC σ2 261 (nI v) 0 := by
        unfold f7_wayRule f7_wayRule_p27
        rw [gd_t (oL46 L), bd_s vh, lN_i, lt_b, h8, if_pos rfl, if_pos (show nI v ≤ 6 from nI_le (b := 6) c6 (by decide)), gd_t (oL46 L), bd_s (take3 L h8 a1), if_neg (by decide)]
        rfl
      rw [eC, if_pos (show nI v ≤ 6 from nI_le (b := 6) c6 (by decide)), bd_s p37]
      exact RuT_from (tail_s (A := nI v) (B := 0) C a4 hr a3 (by omega) a5 (Or.inr (Or.inr (Or.inr rfl))) (fun h => absurd h (by decide)) (fun _ => ⟨by rw [nI_toInt (by omega)]; omega, a6⟩)) (by omega) (Fr_mo a8 (fun _ _ => pc_rc)) a9
    · obtain ⟨σ3, ρ3, b1, b2, b3, b4, b5⟩ := PR_fail (F := 2) C P1 (by decide) (by decide)
      obtain ⟨ρ4, e1, e2, e3⟩ := p194_f b3 hr
      rw [if_neg (show ¬ nI v ≤ 6 from nI_ge (a := 6) (by omega) (by omega)), show (2 : Int32) = nI 2 from rfl, bd_s b2, bd_s (p37f ρ3 (FR_flt b3)), e1]
      refine Or.inr ⟨σ3, ρ4, ?_, rfl, e2, Fr_mo b4 (fun _ _ => pc_rc), Fr_tr (Fr_tr (Fr_wI Fr_rf (Or.inl (by unfold Wrm; omega))) (Fr_mo b5 (fun _ _ => pm_rm))) (Fr_mo e3 (fun _ _ => w7_rm))⟩
      unfold f7_wayRule
      rw [gd_t (oL46 L), bd_s vh, lN_i, lt_b, h8, if_pos rfl, if_neg (show ¬ nI v ≤ 6 from nI_ge (a := 6) (by omega) (by omega)), show (2 : Int32) = nI 2 from rfl, bd_s b1, gd_t (by decide)]
  · have fl := FR_flt fr
    have M1 := fl.1
    have fr2 := FR_out fr (fr7 (v := 0) (j := r) (show 123 ≤ 124 by decide) (by decide)) (fun x q w => by unfold W7 at w; omega)
    have fl2 := FR_flt fr2
    obtain ⟨ρ4, e1, e2, e3⟩ := p194_f fr2 hr
    rw [bd_s nm, gd_t (oL124 M1), gd_t (inb_n (lL124 M1) (by omega) (by decide)), lt_b, ix_n (by omega), bd_s (isWell_f fl2), if_pos rfl, bd_s (p37f _ fl2), e1]
    refine Or.inr ⟨σ1, ρ4, ?_, rfl, e2, Fr_mo f1 (fun _ _ => pc_rc), Fr_tr (Fr_tr (Fr_mo g1 (fun _ _ => pm_rm)) (Fr_mo (fr7 (by decide) (by decide)) (fun _ _ => w7_rm))) (Fr_mo e3 (fun _ _ => w7_rm))⟩
    unfold f7_wayRule f7_wayRule_p27
    rw [gd_t (oL46 L), bd_s vh, lt_b, if_neg h8, gd_t (oL46 L), bd_s tk, if_pos rfl]
