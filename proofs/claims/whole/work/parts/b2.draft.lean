/-! THE DRAFT: rules that are done, the one at hand -/
def Wrc (x k : Nat) : Prop := x = 46 ∧ 7 ≤ k ∧ k ≤ 12 ∨ x = 51 ∧ 9 ≤ k ∨ x = 52 ∧ (k = 5 ∨ k = 6) ∨ 53 ≤ x ∧ x ≤ 57
def Wrm (x k : Nat) : Prop := x = 101 ∧ (36 ≤ k ∧ k ≤ 41 ∨ k = 43 ∨ k = 44) ∨ x = 120 ∧ 10080 ≤ k ∨ (x = 121 ∨ x = 122) ∧ k = 24 ∨ 123 ≤ x ∧ x ≤ 127 ∧ 480 ≤ k ∨ x = 132 ∨ x = 133
theorem pc_rc {x k : Nat} (h : Wpc x k) : Wrc x k := by unfold Wpc at h; unfold Wrc; omega
theorem pm_rm {x k : Nat} (h : Wpm x k) : Wrm x k := by unfold Wpm at h; unfold Wrm; omega
theorem tx_lo {σ τ : St} {a r : Nat} (e2 : ∀ i, i < r → sI τ (a + 2) i = sI σ (a + 2) i) (e3 : ∀ i, i < r → sI τ (a + 3) i = sI σ (a + 3) i) : (∀ i, i < r → enF τ a i = enF σ a i) ∧ (∀ i, i ≤ r → stF τ a i = stF σ a i) ∧ ∀ i, i ≤ r → ltF τ a i = ltF σ a i := by
  have en : ∀ i, i < r → enF τ a i = enF σ a i := fun i hi => by unfold enF; rw [e3 i hi]
  refine ⟨en, fun i hi => ?_, fun i => ?_⟩
  · cases i with
    | zero => rfl
    | succ i => exact en i (by omega)
  · induction i with
    | zero => intro _; rfl
    | succ i ih => intro hi; unfold ltF; rw [e2 i (by omega), ih (by omega)]
theorem TxOk_lo {σ τ : St} {a C R : Nat} (e1 : ∀ i, i < C → sI τ (a + 1) i = sI σ (a + 1) i) (e2 : ∀ i, i < R → sI τ (a + 2) i = sI σ (a + 2) i) (e3 : ∀ i, i < R → sI τ (a + 3) i = sI σ (a + 3) i) (e4 : ∀ i, i < R → sI τ (a + 4) i = sI σ (a + 4) i) (e5 : ∀ i, i < R → sI τ (a + 5) i = sI σ (a + 5) i) (ok : TxOk σ a C R) : TxOk τ a C R := by
  obtain ⟨en, st, lt⟩ := tx_lo e2 e3
  refine ⟨by rw [lt R (Nat.le_refl _)]; exact ok.1, fun i hi => ?_⟩
  obtain ⟨o1, o2, o3, o4, o5, o6, o7, o8⟩ := ok.2 i hi
  rw [e2 i hi, e3 i hi, e4 i hi, e5 i hi, en i hi, st i (by omega), lt i (by omega)]
  exact ⟨o1, o2, o3, o4, Sg_cg o5 (fun q _ h2 => (e1 q (by omega)).symm), o6, o7, o8⟩
def DQ (σ ρ : St) (r c l : Nat) : Prop := TxOk σ 52 c r ∧ ltF σ 52 r = l ∧ stF σ 52 r = c ∧ sI σ 52 6 = nI r ∧
  ∀ i, i < r → sI ρ 123 (480 + i) = kmF (sI σ 54 i) ∧ sI ρ 126 (480 + i) = nI (stF σ 52 i) ∧ sI ρ 127 (480 + i) = nI (enF σ 52 i) ∧ (sI σ 54 i = 259 → sI ρ 124 (480 + i) = sI σ 56 i ∧ sI ρ 125 (480 + i) = sI σ 57 i) ∧ (sI σ 54 i = 261 → sI ρ 124 (480 + i) = sI σ 56 i)
theorem DQ_lo {σ τ ρ ρ' : St} {r c l : Nat} (e1 : ∀ i, i < c → sI τ 53 i = sI σ 53 i) (e2 : ∀ i, i < r → sI τ 54 i = sI σ 54 i ∧ sI τ 55 i = sI σ 55 i ∧ sI τ 56 i = sI σ 56 i ∧ sI τ 57 i = sI σ 57 i) (e6 : sI τ 52 6 = sI σ 52 6) (f : ∀ i, i < r → sI ρ' 123 (480 + i) = sI ρ 123 (480 + i) ∧ sI ρ' 124 (480 + i) = sI ρ 124 (480 + i) ∧ sI ρ' 125 (480 + i) = sI ρ 125 (480 + i) ∧ sI ρ' 126 (480 + i) = sI ρ 126 (480 + i) ∧ sI ρ' 127 (480 + i) = sI ρ 127 (480 + i)) (D : DQ σ ρ r c l) : DQ τ ρ' r c l := by
  obtain ⟨en, st, lt⟩ := tx_lo (a := 52) (fun i hi => (e2 i hi).1) (fun i hi => (e2 i hi).2.1)
  refine ⟨TxOk_lo (a := 52) e1 (fun i hi => (e2 i hi).1) (fun i hi => (e2 i hi).2.1) (fun i hi => (e2 i hi).2.2.1) (fun i hi => (e2 i hi).2.2.2) D.1, by rw [lt r (Nat.le_refl _)]; exact D.2.1, by rw [st r (Nat.le_refl _)]; exact D.2.2.1, by rw [e6]; exact D.2.2.2.1, fun i hi => ?_⟩
  obtain ⟨f1, f2, f3, f4, f5⟩ := f i hi
  obtain ⟨g1, g2, g3, g4⟩ := e2 i hi
  rw [f1, f2, f3, f4, f5, g1, g3, g4, en i hi, st i (by omega)]
  exact D.2.2.2.2 i hi
/-- a rule more -/
theorem DQ_add {σ τ ρ ρ' : St} {r c c' l l' : Nat} {kind A B : Int32} (D : DQ σ ρ r c l) (hr : r < 20) (hc : c ≤ c') (c4 : c' ≤ 400) (l6 : l' ≤ 6) (e1 : ∀ i, i < c → sI τ 53 i = sI σ 53 i) (e2 : ∀ i, sI τ 54 i = up (sI σ 54) r kind i ∧ sI τ 55 i = up (sI σ 55) r (nI c') i ∧ sI τ 56 i = up (sI σ 56) r A i ∧ sI τ 57 i = up (sI σ 57) r B i) (e6 : sI τ 52 6 = nI (r + 1))
    (f : ∀ i, i < r → sI ρ' 123 (480 + i) = sI ρ 123 (480 + i) ∧ sI ρ' 124 (480 + i) = sI ρ 124 (480 + i) ∧ sI ρ' 125 (480 + i) = sI ρ 125 (480 + i) ∧ sI ρ' 126 (480 + i) = sI ρ 126 (480 + i) ∧ sI ρ' 127 (480 + i) = sI ρ 127 (480 + i))
    (k5 : kind = 256 ∨ kind = 257 ∨ kind = 258 ∨ kind = 259 ∨ kind = 261) (S : Sg (sI τ 53) l c c' 60 (decide (kind ≠ 256))) (hl : l' = if kind = 256 then l + 1 else l) (q1 : kind = 256 → A = nI (9 + l)) (q2 : kind = 259 → 0 < B.toInt ∧ sI ρ' 124 (480 + r) = A ∧ sI ρ' 125 (480 + r) = B) (q3 : kind = 261 → (0 ≤ A.toInt ∧ A.toInt ≤ 6) ∧ sI ρ' 124 (480 + r) = A)
    (g1 : sI ρ' 123 (480 + r) = kmF kind) (g2 : sI ρ' 126 (480 + r) = nI c) (g3 : sI ρ' 127 (480 + r) = nI c') : DQ τ ρ' (r + 1) c' l' := by
  have old : ∀ i, i < r → sI τ 54 i = sI σ 54 i ∧ sI τ 55 i = sI σ 55 i ∧ sI τ 56 i = sI σ 56 i ∧ sI τ 57 i = sI σ 57 i := fun i hi => by
    obtain ⟨a1, a2, a3, a4⟩ := e2 i
    unfold up at a1 a2 a3 a4
    rw [if_neg (by omega)] at a1 a2 a3 a4
    exact ⟨a1, a2, a3, a4⟩
  have nw : sI τ 54 r = kind ∧ sI τ 55 r = nI c' ∧ sI τ 56 r = A ∧ sI τ 57 r = B := by
    obtain ⟨a1, a2, a3, a4⟩ := e2 r
    unfold up at a1 a2 a3 a4
    rw [if_pos rfl] at a1 a2 a3 a4
    exact ⟨a1, a2, a3, a4⟩
  obtain ⟨en, st, lt⟩ := tx_lo (a := 52) (fun i hi => (old i hi).1) (fun i hi => (old i hi).2.1)
  have ok := TxOk_lo (a := 52) e1 (fun i hi => (old i hi).1) (fun i hi => (old i hi).2.1) (fun i hi => (old i hi).2.2.1) (fun i hi => (old i hi).2.2.2) D.1
  have enr : enF τ 52 r = c' := by
    unfold enF
    show ix (sI τ 55 r) = _
    rw [nw.2.1, ix_n (by omega)]
  have str : stF τ 52 r = c := by rw [st r (Nat.le_refl _)]; exact D.2.2.1
  have ltr : ltF τ 52 r = l := by rw [lt r (Nat.le_refl _)]; exact D.2.1
  have lts : ltF τ 52 (r + 1) = l' := by
    rw [hl, ← ltr]
    show (if sI τ 54 r = 256 then _ else _) = _
    rw [nw.1]
  refine ⟨⟨by rw [lts]; exact l6, fun i hi => ?_⟩, lts, enr, e6, fun i hi => ?_⟩
  · by_cases ci : i = r
    · subst ci
      rw [enr, str, ltr]
      show sI τ 55 i = nI c' ∧ c ≤ c' ∧ c' ≤ c' ∧ (sI τ 54 i = 256 ∨ sI τ 54 i = 257 ∨ sI τ 54 i = 258 ∨ sI τ 54 i = 259 ∨ sI τ 54 i = 261) ∧ Sg (sI τ 53) l c c' 60 (decide (sI τ 54 i ≠ 256)) ∧ (sI τ 54 i = 256 → sI τ 56 i = nI (9 + l)) ∧ (sI τ 54 i = 259 → 0 < (sI τ 57 i).toInt) ∧ (sI τ 54 i = 261 → 0 ≤ (sI τ 56 i).toInt ∧ (sI τ 56 i).toInt ≤ 6)
      rw [nw.1, nw.2.1, nw.2.2.1, nw.2.2.2]
      exact ⟨rfl, hc, Nat.le_refl _, k5, S, q1, fun h => (q2 h).1, fun h => (q3 h).1⟩
    · obtain ⟨o1, o2, o3, o4⟩ := ok.2 i (by omega)
      exact ⟨o1, o2, by omega, o4⟩
  · by_cases ci : i = r
    · subst ci
      rw [enr, str, nw.1, nw.2.2.1, nw.2.2.2]
      exact ⟨g1, g2, g3, fun h => (q2 h).2, fun h => (q3 h).2⟩
    · obtain ⟨f1, f2, f3, f4, f5⟩ := f i (by omega)
      obtain ⟨h1, h2, h3, h4⟩ := old i (by omega)
      rw [f1, f2, f3, f4, f5, h1, h3, h4, en i (by omega), st i (by omega)]
      exact D.2.2.2.2 i (by omega)
/-- cells beside the parsing change -/
theorem PR_out {W V : Nat → Nat → Prop} {t : Nat → Int32} {s N k c l o : Nat} {σ ρ σ' ρ' : St} (P : PR t s N k c l o σ ρ) (f : Fr W σ σ') (g : Fr V ρ ρ') (hw : ∀ x k, W x k → x = 52 ∧ k = 6 ∨ 54 ≤ x ∧ x ≤ 57) (hv : ∀ x k, V x k → 122 ≤ x ∧ x ≤ 127) : PR t s N k c l o σ' ρ' := by
  obtain ⟨⟨L, K, h6, T⟩, ⟨kN, h7, h8, h9, l6, h10, h5, h11, h12⟩, ⟨M, Tp, Tk, m40, m43, m44, m24⟩, R, co⟩ := P
  have hN := L.2.2
  have hM := M.2.2
  have kc : ∀ x q, x ≤ 53 → ¬ (x = 52 ∧ q = 6) → sI σ' x q = sI σ x q := fun x q h1 h2 => Fr_i f (by omega) (fun w => by have := hw x q w; omega)
  have km : ∀ x q, x ≤ 121 → sI ρ' x q = sI ρ x q := fun x q h1 => Fr_i g (by omega) (fun w => by have := hv x q w; omega)
  refine ⟨⟨Lay_Fr f L, gP_Fr f L (fun q w => by have := hw _ _ w; omega) K, by rw [kc _ _ (by omega) (by omega)]; exact h6, Tks_F f L (fun x q hq w => by have := hw _ _ w; omega) T⟩, ⟨kN, by rw [kc _ _ (by omega) (by omega)]; exact h7, by rw [kc _ _ (by omega) (by omega)]; exact h8, by rw [kc _ _ (by omega) (by omega)]; exact h9, l6, by rw [kc _ _ (by omega) (by omega)]; exact h10, by rw [kc _ _ (by omega) (by omega)]; exact h5, by rw [kc _ _ (by omega) (by omega)]; exact h11, by rw [kc _ _ (by omega) (by omega)]; exact h12⟩, ⟨Lay_Fr g M, Tpm_Fr g M (fun x q hq w => by have := hv _ _ w; omega) Tp, ⟨by rw [km _ _ (by omega)]; exact Tk.1, by rw [km _ _ (by omega)]; exact Tk.2.1, by rw [km _ _ (by omega)]; exact Tk.2.2.1, fun h => by rw [km _ _ (by omega)]; exact Tk.2.2.2.1 h, fun h => by rw [km _ _ (by omega)]; exact Tk.2.2.2.2 h⟩, by rw [km _ _ (by omega)]; exact m40, by rw [km _ _ (by omega)]; exact m43, by rw [km _ _ (by omega)]; exact m44, by rw [km _ _ (by omega)]; exact m24⟩, NmR_Fr f g L M (fun q w => by have := hw _ _ w; omega) (fun x q hq w => by have := hv _ _ w; omega) R, fun i hi => by rw [km 120 _ (by omega), kc 53 _ (by omega) (by omega)]; exact co i hi⟩
theorem FR_out {V : Nat → Nat → Prop} {σ ρ ρ' : St} (h : FR σ ρ) (g : Fr V ρ ρ') (hv : ∀ x k, V x k → x ≠ 101) : FR σ ρ' := by
  obtain ⟨⟨L, M⟩, F, p, a1, a2, a3, a4, a5, a6, a7⟩ := h
  have hM := M.2.2
  exact ⟨⟨L, Lay_Fr g M⟩, F, p, a1, a2, a3, a4, a5, by rw [Fr_i g (by omega) (fun w => hv _ _ w rfl)]; exact a6, by rw [Fr_i g (by omega) (fun w => hv _ _ w rfl)]; exact a7⟩
/-- a sign that must stand here -/
theorem tk_sign {t : Nat → Int32} {s N k c l o d : Nat} {σ ρ : St} (C : Ctx t s N) (P : PR t s N k c l o σ ρ) (hd : d < 128) :
    (∃ σ' ρ', f7_take σ 46 (nI d) = some (1, σ') ∧ f12_wantSign ρ 101 (nI d) = some ((), ρ') ∧ PR t s N (k + 1) c l o σ' ρ' ∧ k < N ∧ sI σ' 53 = sI σ 53 ∧ Fr Wpc σ σ' ∧ Fr Wpm ρ ρ') ∨
    (∃ σ' ρ', f7_take σ 46 (nI d) = some (0, σ') ∧ f12_wantSign ρ 101 (nI d) = some ((), ρ') ∧ FR σ' ρ' ∧ Fr Wpc σ σ' ∧ Fr Wpm ρ ρ') := by
  have L := P.1.1
  have M := P.2.2.1.1
  have sg := isSign_s (d := d) C.2.1 M P.2.2.1.2.2.1 hd
  have h8 := P.2.1.2.2.1
  by_cases q : tkF t s (tpF t s k) = nI d
  · have hk : k < N := tp_end C P.2.1.1 (by rw [q]; exact nI_m1 (by omega))
    rw [if_pos q] at sg
    obtain ⟨σ', ρ', a1, a2, a3, a4, a5, a6⟩ := PR_step C P hk
    refine Or.inl ⟨σ', ρ', ?_, ?_, a3, hk, a6, a4, a5⟩
    · unfold f7_take
      rw [gd_t (oL46 L), h8, if_pos q, bd_s a1]
    · unfold f12_wantSign
      rw [gd_t (oL101 M), bd_s (isWell_w M P.2.2.1.2.2.2.1), if_neg (by decide), bd_s sg, if_neg (by decide), bd_s a2]
  · rw [if_neg q] at sg
    obtain ⟨σ', ρ', a1, a2, a3, a4, a5⟩ := PR_fail (F := 1) C P (by decide) (by decide)
    refine Or.inr ⟨σ', ρ', ?_, ?_, a3, a4, a5⟩
    · unfold f7_take
      rw [gd_t (oL46 L), h8, if_neg q, show (1 : Int32) = nI 1 from rfl, bd_s a1, gd_t (by decide)]
    · unfold f12_wantSign
      rw [gd_t (oL101 M), bd_s (isWell_w M P.2.2.1.2.2.2.1), if_neg (by decide), bd_s sg, if_pos rfl, show (1 : Int32) = nI 1 from rfl, bd_s a2]
theorem tk_word {t : Nat → Int32} {s N k c l o id q : Nat} {σ ρ : St} (C : Ctx t s N) (P : PR t s N k c l o σ ρ) (hid : id < 22) (h3 : 3 ≤ id) (hq : q < 10) (e : pwS id = kwL.getD q 0) :
    (∃ σ' ρ', f7_take σ 46 (nI (256 + q)) = some (1, σ') ∧ f12_wantWord ρ 101 id = some ((), ρ') ∧ PR t s N (k + 1) c l o σ' ρ' ∧ k < N ∧ sI σ' 53 = sI σ 53 ∧ Fr Wpc σ σ' ∧ Fr Wpm ρ ρ') ∨
    (∃ σ' ρ', f7_take σ 46 (nI (256 + q)) = some (0, σ') ∧ f12_wantWord ρ 101 id = some ((), ρ') ∧ FR σ' ρ' ∧ Fr Wpc σ σ' ∧ Fr Wpm ρ ρ') := by
  have L := P.1.1
  have M := P.2.2.1.1
  have kw := isKw_s (id := id) (q := q) C.1 C.2.1 M P.2.2.1.2.1 P.2.2.1.2.2.1 hid h3 hq e
  have h8 := P.2.1.2.2.1
  by_cases g : tkF t s (tpF t s k) = nI (256 + q)
  · have hk : k < N := tp_end C P.2.1.1 (by rw [g]; exact nI_m1 (by omega))
    rw [if_pos g] at kw
    obtain ⟨σ', ρ', a1, a2, a3, a4, a5, a6⟩ := PR_step C P hk
    refine Or.inl ⟨σ', ρ', ?_, ?_, a3, hk, a6, a4, a5⟩
    · unfold f7_take
      rw [gd_t (oL46 L), h8, if_pos g, bd_s a1]
    · unfold f12_wantWord
      rw [gd_t (oL101 M), bd_s (isWell_w M P.2.2.1.2.2.2.1), if_neg (by decide), bd_s kw, if_neg (by decide), bd_s a2]
  · rw [if_neg g] at kw
    obtain ⟨σ', ρ', a1, a2, a3, a4, a5⟩ := PR_fail (F := 1) C P (by decide) (by decide)
    refine Or.inr ⟨σ', ρ', ?_, ?_, a3, a4, a5⟩
    · unfold f7_take
      rw [gd_t (oL46 L), h8, if_neg g, show (1 : Int32) = nI 1 from rfl, bd_s a1, gd_t (by decide)]
    · unfold f12_wantWord
      rw [gd_t (oL101 M), bd_s (isWell_w M P.2.2.1.2.2.2.1), if_neg (by decide), bd_s kw, if_pos rfl, show (1 : Int32) = nI 1 from rfl, bd_s a2]
/-- the rule at hand, in the reference's row -/
def RH (ρ : St) (r c : Nat) (kind : Int32) : Prop := sI ρ 122 24 = nI (r + 1) ∧ sI ρ 123 (480 + r) = kmF kind ∧ sI ρ 126 (480 + r) = nI c
theorem RH_pm {W : Nat → Nat → Prop} {ρ ρ' : St} {r c : Nat} {kind : Int32} (h : RH ρ r c kind) (M : Lay ρ) (g : Fr W ρ ρ') (hw : ∀ x k, W x k → x ≠ 122 ∧ x ≠ 123 ∧ x ≠ 126) : RH ρ' r c kind := by
  have hM := M.2.2
  exact ⟨by rw [Fr_i g (by omega) (fun w => (hw _ _ w).1 rfl)]; exact h.1, by rw [Fr_i g (by omega) (fun w => (hw _ _ w).2.1 rfl)]; exact h.2.1, by rw [Fr_i g (by omega) (fun w => (hw _ _ w).2.2 rfl)]; exact h.2.2⟩
/-- the end of a rule: both close it -/
theorem close_s {t : Nat → Int32} {s N k c c0 l l' r : Nat} {kind A B : Int32} {σ0 ρ0 σ ρ : St} (C : Ctx t s N) (D : DQ σ0 ρ0 r c0 l) (hr : r < 20) (P : PR t s N k c l' 0 σ ρ) (hck : c ≤ k) (hc : c0 ≤ c) (H : RH ρ r c0 kind)
    (e1 : ∀ i, i < c0 → sI σ 53 i = sI σ0 53 i) (e2 : ∀ i, sI σ 54 i = sI σ0 54 i ∧ sI σ 55 i = sI σ0 55 i ∧ sI σ 56 i = sI σ0 56 i ∧ sI σ 57 i = sI σ0 57 i) (e6 : sI σ 52 6 = sI σ0 52 6)
    (f : ∀ i, i < r → sI ρ 123 (480 + i) = sI ρ0 123 (480 + i) ∧ sI ρ 124 (480 + i) = sI ρ0 124 (480 + i) ∧ sI ρ 125 (480 + i) = sI ρ0 125 (480 + i) ∧ sI ρ 126 (480 + i) = sI ρ0 126 (480 + i) ∧ sI ρ 127 (480 + i) = sI ρ0 127 (480 + i))
    (k5 : kind = 256 ∨ kind = 257 ∨ kind = 258 ∨ kind = 259 ∨ kind = 261) (S : Sg (sI σ 53) l c0 c 60 (decide (kind ≠ 256))) (hl : l' = if kind = 256 then l + 1 else l) (q1 : kind = 256 → A = nI (9 + l)) (q2 : kind = 259 → 0 < B.toInt ∧ sI ρ 124 (480 + r) = A ∧ sI ρ 125 (480 + r) = B) (q3 : kind = 261 → (0 ≤ A.toInt ∧ A.toInt ≤ 6) ∧ sI ρ 124 (480 + r) = A) :
    (∃ σ' ρ', f7_closeRule σ 46 kind A B = some (1, σ') ∧ f12_readRule_p205 ρ 101 (nI (480 + r)) = some ((), ρ') ∧ PR t s N (k + 1) c l' 0 σ' ρ' ∧ DQ σ' ρ' (r + 1) c l' ∧ sI ρ' 122 24 = nI (r + 1) ∧ Fr Wrc σ σ' ∧ Fr Wrm ρ ρ') ∨
    (∃ σ' ρ', f7_closeRule σ 46 kind A B = some (0, σ') ∧ f12_readRule_p205 ρ 101 (nI (480 + r)) = some ((), ρ') ∧ FR σ' ρ' ∧ Fr Wrc σ σ' ∧ Fr Wrm ρ ρ') := by
  have L := P.1.1
  have M := P.2.2.1.1
  have hM := M.2.2
  have kN := P.2.1.1
  have N4 := C.2.2.1
  have l6 := P.2.1.2.2.2.2.1
  have h5 := P.2.1.2.2.2.2.2.2.1
  have h6 : sI σ 52 6 = nI r := e6.trans D.2.2.2.1
  -- what closing writes
  have fw : Fr (fun x k => x = 52 ∧ k = 6 ∨ 54 ≤ x ∧ x ≤ 57) σ (wI (wI (wI (wI (wI σ 54 r kind) 56 r A) 57 r B) 55 r (nI c)) 52 6 (nI (r + 1))) := by
    refine Fr_wI (Fr_wI (Fr_wI (Fr_wI (Fr_wI Fr_rf ?_) ?_) ?_) ?_) ?_ <;> exact Or.inl (by omega)
  have cl : f10_close σ 52 kind A B = some ((), wI (wI (wI (wI (wI σ 54 r kind) 56 r A) 57 r B) 55 r (nI c)) 52 6 (nI (r + 1))) := by
    unfold f10_close
    rw [gd_t (oL52 L), lt_b, rL52_1 L, gd_t nz_s, gd_t (oL54 L), h6, lL54 L, if_pos (show nI r < Int32.ofNat 20 from nI_lt hr (by decide))]
    simp (disch := omega) only [gd_1, lt_b, bd_1, nz_s, ob_wI, inb_wI, sR_wI, sK_wI, oL54 L, inb_n (lL54 L), oL55 L, inb_n (lL55 L), oL56 L, inb_n (lL56 L), oL57 L, inb_n (lL57 L), rL52_2 L, rL52_3 L, rL52_4 L, nz_t, ix_n, sI_wo, h6, h5, nI_1]
  have P1 := PR_out P fw (Fr_rf (W := fun x _ => 122 ≤ x ∧ x ≤ 127)) (fun _ _ h => h) (fun _ _ h => h)
  generalize hσ1 : wI (wI (wI (wI (wI σ 54 r kind) 56 r A) 57 r B) 55 r (nI c)) 52 6 (nI (r + 1)) = σ1 at fw cl P1
  have e53 : ∀ i, sI σ1 53 i = sI σ 53 i := fun i => by rw [← hσ1]; simp (disch := omega) only [sI_wo]
  have u : ∀ i, sI σ1 54 i = up (sI σ0 54) r kind i ∧ sI σ1 55 i = up (sI σ0 55) r (nI c) i ∧ sI σ1 56 i = up (sI σ0 56) r A i ∧ sI σ1 57 i = up (sI σ0 57) r B i := fun i => by
    obtain ⟨b1, b2, b3, b4⟩ := e2 i
    rw [← hσ1]
    refine ⟨?_, ?_, ?_, ?_⟩
    · simp (disch := omega) only [sI_wo]; rw [up_w]; unfold up; rw [b1]
    · simp (disch := omega) only [sI_wo]; rw [up_w]; unfold up; rw [sI_wo (by omega), sI_wo (by omega), sI_wo (by omega), b2]
    · simp (disch := omega) only [sI_wo]; rw [up_w]; unfold up; rw [sI_wo (by omega), b3]
    · simp (disch := omega) only [sI_wo]; rw [up_w]; unfold up; rw [sI_wo (by omega), sI_wo (by omega), b4]
  have u6 : sI σ1 52 6 = nI (r + 1) := by rw [← hσ1, sI_w1]
  have fw' : Fr Wrc σ σ1 := Fr_mo fw (fun x k h => by unfold Wrc; omega)
  have eC : f7_closeRule σ 46 kind A B = bd (f7_take σ1 46 (59 : Int32)) fun r10 t11 => gd (isB r10) (some (r10, t11)) := by
    unfold f7_closeRule
    rw [gd_t (oL46 L), lt_b, rL46_5 L, gd_t nz_s, gd_t (oL52 L), bd_s cl]
  have eM : ∀ ρ2, Lay ρ2 → f12_wantSign ρ 101 59 = some ((), ρ2) → f12_readRule_p205 ρ 101 (nI (480 + r)) = some ((), wI ρ2 127 (480 + r) (sI ρ2 121 24)) := fun ρ2 M2 h => by
    unfold f12_readRule_p205
    rw [gd_t (oL101 M), bd_s h, lt_b, rL101_30 M2, gd_t nz_s, lt_b, rL101_24 M2, gd_t nz_s, gd_t (oL121 M2), show (24 : Int32) = nI 24 from rfl, gd_t (inb_n (lL121 M2) (by decide) (by decide)), gd_t (oL127 M2), gd_t (inb_n (lL127 M2) (by omega) (by decide)), lt_b, ix_n (k := 24) (by decide), ix_n (k := 480 + r) (by omega)]
  have f127 : ∀ ρ2 x, Fr (fun x k => x = 127 ∧ 480 ≤ k) ρ2 (wI ρ2 127 (480 + r) x) := fun ρ2 x => Fr_wI Fr_rf (Or.inl ⟨rfl, by omega⟩)
  rcases tk_sign (d := 59) C P1 (by decide) with ⟨σ2, ρ2, a1, a2, a3, a4, a5, a6, a7⟩ | ⟨σ2, ρ2, a1, a2, a3, a6, a7⟩
  · have M2 := a3.2.2.1.1
    have hM2 := M2.2.2
    have L1 := P1.1.1
    have hN1 := L1.2.2
    have k24 := a3.2.2.1.2.2.2.2.2.2
    have km : ∀ x q, 122 ≤ x → x ≤ 127 → sI ρ2 x q = sI ρ x q := fun x q h1 h2 => Fr_i a7 (by omega) (by unfold Wpm; omega)
    have kc2 : ∀ x q, 54 ≤ x → x ≤ 57 → sI σ2 x q = sI σ1 x q := fun x q h1 h2 => Fr_i a6 (by omega) (by unfold Wpc; omega)
    have eM' := eM ρ2 M2 a2
    rw [k24] at eM'
    refine Or.inl ⟨σ2, wI ρ2 127 (480 + r) (nI c), ?_, eM', PR_out a3 (Fr_rf (W := fun x k => x = 52 ∧ k = 6 ∨ 54 ≤ x ∧ x ≤ 57)) (f127 ρ2 (nI c)) (fun _ _ h => h) (fun x k h => by omega), ?_, ?_, Fr_tr fw' (Fr_mo a6 (fun _ _ => pc_rc)), Fr_tr (Fr_mo a7 (fun _ _ => pm_rm)) (Fr_mo (f127 ρ2 _) (fun x k h => by unfold Wrm; omega))⟩
    · have a1' : f7_take σ1 46 59 = some (1, σ2) := a1
      rw [eC, bd_s a1', gd_t (by decide)]
    · refine DQ_add (A := A) (B := B) D hr hc (by omega) l6 (fun i hi => by rw [a5, e53, e1 i hi]) (fun i => ?_) ?_ (fun i hi => ?_) k5 (Sg_cg S (fun q _ _ => by rw [a5, e53])) hl q1 (fun h => ?_) (fun h => ?_) ?_ ?_ ?_
      · rw [kc2 54 i (by omega) (by omega), kc2 55 i (by omega) (by omega), kc2 56 i (by omega) (by omega), kc2 57 i (by omega) (by omega)]; exact u i
      · rw [Fr_i a6 (by omega) (by unfold Wpc; omega)]; exact u6
      · rw [sI_wo (by omega), sI_wo (by omega), sI_wo (by omega), sI_wo (by omega), sI_wk (by omega), km 123 _ (by omega) (by omega), km 124 _ (by omega) (by omega), km 125 _ (by omega) (by omega), km 126 _ (by omega) (by omega), km 127 _ (by omega) (by omega)]; exact f i hi
      · rw [sI_wo (by omega), sI_wo (by omega), km 124 _ (by omega) (by omega), km 125 _ (by omega) (by omega)]; exact q2 h
      · rw [sI_wo (by omega), km 124 _ (by omega) (by omega)]; exact q3 h
      · rw [sI_wo (by omega), km 123 _ (by omega) (by omega)]; exact H.2.1
      · rw [sI_wo (by omega), km 126 _ (by omega) (by omega)]; exact H.2.2
      · rw [sI_w1]
    · rw [sI_wo (by omega), km 122 _ (by omega) (by omega)]; exact H.1
  · have fl := FR_flt a3
    refine Or.inr ⟨σ2, _, ?_, eM ρ2 fl.1 a2, FR_out a3 (f127 ρ2 _) (fun x k h => by omega), Fr_tr fw' (Fr_mo a6 (fun _ _ => pc_rc)), Fr_tr (Fr_mo a7 (fun _ _ => pm_rm)) (Fr_mo (f127 ρ2 _) (fun x k h => by unfold Wrm; omega))⟩
    have a1' : f7_take σ1 46 59 = some (0, σ2) := a1
    rw [eC, bd_s a1', gd_t (by decide)]
