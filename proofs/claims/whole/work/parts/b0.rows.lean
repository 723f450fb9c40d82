/-! OPERANDS WITH SIGNS BETWEEN THEM: one row for products, sums, boths, conds -/
def isOp (op : Int32) (b : Bool) : Prop := op < 0 ∧ op ≠ -7 ∧ ¬ op < -9 ∧ (op = -8 ∨ op = -9 → b = true) ∧ (b = true → ∀ a d : Int32, (b = true → (a = 0 ∨ a = 1) ∧ (d = 0 ∨ d = 1)) → jnF op a d = 0 ∨ jnF op a d = 1)
/-- the class's loop LC over operands X, signs by Kop -/
def LpC (Kop : Int32 → Option Int32) (X : St → Nat → Option (Int32 × St)) (LC : Nat → St → Nat → Int32 → Option (Int32 × St)) : Prop :=
  (∀ f σ i, Lay σ → i < 400 → Kop (sI σ 46 8) = none → LC (f + 1) σ 46 (nI i) = some (1, σ)) ∧
  (∀ f σ i op σ1 σ2, Lay σ → i < 400 → Kop (sI σ 46 8) = some op → f7_step σ 46 = some ((), σ1) → X σ1 46 = some (0, σ2) → Lay σ1 → LC (f + 1) σ 46 (nI i) = some (0, σ2)) ∧
  (∀ f σ i op σ1 σ2 σ3, Lay σ → i < 400 → Kop (sI σ 46 8) = some op → f7_step σ 46 = some ((), σ1) → X σ1 46 = some (1, σ2) → Lay σ1 → Lay σ2 → f10_emit σ2 52 op = some ((), σ3) → LC (f + 1) σ 46 (nI i) = LC f σ3 46 (nI (i + 1)))
def LpM (t : Nat → Int32) (s : Nat) (Kop : Int32 → Option Int32) (Y : St → Nat → Option (Unit × St)) (LM : Nat → St → Nat → Option (Unit × St)) : Prop :=
  (∀ f ρ, Flt ρ → LM (f + 1) ρ 101 = some ((), ρ)) ∧
  (∀ f ρ p, Lay ρ → Tpm t s ρ → Tkm t s p ρ → sI ρ 101 40 = 0 → Kop (tkF t s p) = none → LM (f + 1) ρ 101 = some ((), ρ)) ∧
  (∀ f ρ p op ρ1 ρ2 ρ3, Lay ρ → Tpm t s ρ → Tkm t s p ρ → sI ρ 101 40 = 0 → Kop (tkF t s p) = some op → f12_next ρ 101 = some ((), ρ1) → Y ρ1 101 = some ((), ρ2) → Lay ρ2 → f12_emits ρ2 101 (mpF op) = some ((), ρ3) → LM (f + 1) ρ 101 = LM f ρ3 101)
theorem op_lp {t : Nat → Int32} {s N nX nY o : Nat} {b : Bool} {Kop : Int32 → Option Int32} {X : St → Nat → Option (Int32 × St)} {Y : St → Nat → Option (Unit × St)} {LC : Nat → St → Nat → Int32 → Option (Int32 × St)} {LM : Nat → St → Nat → Option (Unit × St)} (C : Ctx t s N) (hC : LpC Kop X LC) (hM : LpM t s Kop Y LM) (hK : ∀ κ op, Kop κ = some op → κ ≠ -1 ∧ isOp op b) (H : ESp t s N nX b o X Y) (hn : nX + 1 ≤ nY) :
    ∀ (j i f1 f2 : Nat) (σ ρ : St) (k c c0 l : Nat), N - k ≤ j → j < f1 → j + 1 < f2 → i ≤ k → PR t s N k c l o σ ρ → c ≤ k → c0 ≤ c → Sg (sI σ 53) l c0 c nY b → i < 400 →
    (∃ σ' ρ' k' c', LC f1 σ 46 (nI i) = some (1, σ') ∧ LM f2 ρ 101 = some ((), ρ') ∧ PR t s N k' c' l o σ' ρ' ∧ k ≤ k' ∧ c ≤ c' ∧ c' + k ≤ c + k' ∧ (∀ i, i < c → sI σ' 53 i = sI σ 53 i) ∧ Sg (sI σ' 53) l c0 c' nY b ∧ Fr Wpc σ σ' ∧ Fr Wpm ρ ρ') ∨
    (∃ σ' ρ', LC f1 σ 46 (nI i) = some (0, σ') ∧ LM f2 ρ 101 = some ((), ρ') ∧ FR σ' ρ' ∧ Fr Wpc σ σ' ∧ Fr Wpm ρ ρ') := by
  intro j
  induction j with
  | zero =>
    intro i f1 f2 σ ρ k c c0 l hj hf1 hf2 hi P hc h0 S i4
    obtain ⟨f1, rfl, -⟩ := suc_of hf1
    obtain ⟨f2, rfl, -⟩ := suc_of (show 0 < f2 by omega)
    have kN := P.2.1.1
    have : k = N := by omega
    subst this
    have tk : tkF t s (tpF t s k) = -1 := by rw [C.2.2.2.1]; unfold tkF; rw [if_neg (by omega)]
    have no : Kop (-1) = none := by
      cases e : Kop (-1) with
      | none => rfl
      | some op => exact absurd rfl (hK _ _ e).1
    refine Or.inl ⟨σ, ρ, k, c, hC.1 f1 σ i P.1.1 i4 (by rw [P.2.1.2.2.1, tk]; exact no), hM.2.1 f2 ρ _ P.2.2.1.1 P.2.2.1.2.1 P.2.2.1.2.2.1 P.2.2.1.2.2.2.1 (by rw [tk]; exact no), P, Nat.le_refl _, Nat.le_refl _, Nat.le_refl _, fun _ _ => rfl, S, Fr_rf, Fr_rf⟩
  | succ j ih =>
    intro i f1 f2 σ ρ k c c0 l hj hf1 hf2 hi P hc h0 S i4
    obtain ⟨f1, rfl, hf1'⟩ := suc_of hf1
    obtain ⟨f2, rfl, hf2'⟩ := suc_of (show j + 2 < f2 by omega)
    have L := P.1.1
    have M := P.2.2.1.1
    have kN := P.2.1.1
    have N4 := C.2.2.1
    cases e : Kop (tkF t s (tpF t s k)) with
    | none =>
      exact Or.inl ⟨σ, ρ, k, c, hC.1 f1 σ i L i4 (by rw [P.2.1.2.2.1]; exact e), hM.2.1 f2 ρ _ M P.2.2.1.2.1 P.2.2.1.2.2.1 P.2.2.1.2.2.2.1 e, P, Nat.le_refl _, Nat.le_refl _, Nat.le_refl _, fun _ _ => rfl, S, Fr_rf, Fr_rf⟩
    | some op =>
      obtain ⟨q1, q2, q3, q4, q5, q6⟩ := hK _ _ e
      have hk : k < N := tp_end C kN q1
      obtain ⟨σ1, ρ1, a1, a2, a3, a4, a5, a6⟩ := PR_step C P hk
      rcases H σ1 ρ1 (k + 1) c l a3 (by omega) with ⟨σ2, ρ2, k2, c2, b1, b2, b3, b4, b5, b6, b7, b8, b9, b10⟩ | ⟨σ2, ρ2, b1, b2, b3, b9, b10⟩
      · obtain ⟨σ3, ρ3, d1, d2, d3, d4, d5, d6⟩ := PR_emit b3 (show c2 < 400 by have := b3.2.1.1; omega) op
        have eC := hC.2.2 f1 σ i op σ1 σ2 σ3 L i4 (by rw [P.2.1.2.2.1]; exact e) a1 b1 a3.1.1 b3.1.1 d1
        have eM := hM.2.2 f2 ρ _ op ρ1 ρ2 ρ3 M P.2.2.1.2.1 P.2.2.1.2.2.1 P.2.2.1.2.2.2.1 e a2 b2 b3.2.2.1.1 d2
        have lo : ∀ q, q < c2 → sI σ3 53 q = sI σ2 53 q := fun q hq => by rw [d6]; unfold up; rw [if_neg (by omega)]
        have lo2 : ∀ q, q < c → sI σ2 53 q = sI σ 53 q := fun q hq => by rw [b7 q hq, a6]
        have S2 : Sg (sI σ3 53) l c0 c nY b := Sg_cg S (fun q _ hq => by rw [lo q (by omega), lo2 q hq])
        have S3 : Sg (sI σ3 53) l c c2 nX b := Sg_cg b8 (fun q _ hq => (lo q hq).symm)
        have S4 : Sg (sI σ3 53) l c0 (c2 + 1) nY b := Sg_mo (Sg_bin S2 S3 (show sI σ3 53 c2 = op by rw [d6]; unfold up; rw [if_pos rfl]) q2 q3 q4 q5 q6) (by omega)
        rcases ih (i + 1) f1 f2 σ3 ρ3 k2 (c2 + 1) c0 l (by omega) (by omega) (by omega) (by omega) d3 (by omega) (by omega) S4 (by have := b3.2.1.1; omega) with ⟨σ', ρ', k', c', r1, r2, r3, r4, r5, r6, r7, r8, r9, r10⟩ | ⟨σ', ρ', r1, r2, r3, r9, r10⟩
        · exact Or.inl ⟨σ', ρ', k', c', by rw [eC]; exact r1, by rw [eM]; exact r2, r3, by omega, by omega, by omega, fun q hq => by rw [r7 q (by omega), lo q (by omega), lo2 q hq], r8, Fr_tr (Fr_tr a4 b9) (Fr_tr d4 r9), Fr_tr (Fr_tr a5 b10) (Fr_tr d5 r10)⟩
        · exact Or.inr ⟨σ', ρ', by rw [eC]; exact r1, by rw [eM]; exact r2, r3, Fr_tr (Fr_tr a4 b9) (Fr_tr d4 r9), Fr_tr (Fr_tr a5 b10) (Fr_tr d5 r10)⟩
      · have fl := FR_flt b3
        have eC := hC.2.1 f1 σ i op σ1 σ2 L i4 (by rw [P.2.1.2.2.1]; exact e) a1 b1 a3.1.1
        have eM := hM.2.2 f2 ρ _ op ρ1 ρ2 ρ2 M P.2.2.1.2.1 P.2.2.1.2.2.1 P.2.2.1.2.2.2.1 e a2 b2 fl.1 (emits_f fl _)
        obtain ⟨f2, rfl, -⟩ := suc_of (show 0 < f2 by omega)
        exact Or.inr ⟨σ2, ρ2, eC, by rw [eM]; exact hM.1 f2 ρ2 fl, b3, Fr_tr a4 b9, Fr_tr a5 b10⟩
theorem op_all {t : Nat → Int32} {s N nX nY o : Nat} {b : Bool} {Kop : Int32 → Option Int32} {X Z : St → Nat → Option (Int32 × St)} {Y V : St → Nat → Option (Unit × St)} {LC : Nat → St → Nat → Int32 → Option (Int32 × St)} {LM : Nat → St → Nat → Option (Unit × St)} (C : Ctx t s N) (hC : LpC Kop X LC) (hM : LpM t s Kop Y LM) (hK : ∀ κ op, Kop κ = some op → κ ≠ -1 ∧ isOp op b) (H : ESp t s N nX b o X Y) (hn : nX + 1 ≤ nY)
    (z0 : ∀ σ σ1, Lay σ → X σ 46 = some (0, σ1) → Z σ 46 = some (0, σ1)) (z1 : ∀ σ σ1, Lay σ → X σ 46 = some (1, σ1) → Z σ 46 = LC FU σ1 46 0) (v1 : ∀ ρ ρ1, Lay ρ → Y ρ 101 = some ((), ρ1) → V ρ 101 = LM FU ρ1 101) : ESp t s N nY b o Z V := by
  intro σ ρ k c l P hc
  have N4 := C.2.2.1
  have kN := P.2.1.1
  rcases H σ ρ k c l P hc with ⟨σ2, ρ2, k2, c2, b1, b2, b3, b4, b5, b6, b7, b8, b9, b10⟩ | ⟨σ2, ρ2, b1, b2, b3, b9, b10⟩
  · rcases op_lp C hC hM hK H hn (N - k2) 0 FU FU σ2 ρ2 k2 c2 c l (Nat.le_refl _) (by unfold FU; omega) (by unfold FU; omega) (Nat.zero_le _) b3 (by omega) b5 (Sg_mo b8 (by omega)) (by decide) with ⟨σ', ρ', k', c', r1, r2, r3, r4, r5, r6, r7, r8, r9, r10⟩ | ⟨σ', ρ', r1, r2, r3, r9, r10⟩
    · exact Or.inl ⟨σ', ρ', k', c', by rw [z1 σ σ2 P.1.1 b1]; exact r1, by rw [v1 ρ ρ2 P.2.2.1.1 b2]; exact r2, r3, by omega, by omega, by omega, fun q hq => by rw [r7 q (by omega)]; exact b7 q hq, r8, Fr_tr b9 r9, Fr_tr b10 r10⟩
    · exact Or.inr ⟨σ', ρ', by rw [z1 σ σ2 P.1.1 b1]; exact r1, by rw [v1 ρ ρ2 P.2.2.1.1 b2]; exact r2, r3, Fr_tr b9 r9, Fr_tr b10 r10⟩
  · have fl := FR_flt b3
    refine Or.inr ⟨σ2, ρ2, z0 σ σ2 P.1.1 b1, ?_, b3, b9, b10⟩
    rw [v1 ρ ρ2 P.2.2.1.1 b2]
    exact hM.1 2999 ρ2 fl
/-! products -/
def kMul (κ : Int32) : Option Int32 := if κ = 42 then some (-3) else none
theorem ar_op {op : Int32} (h : op = -1 ∨ op = -2 ∨ op = -3) : isOp op false := by
  rcases h with rfl | rfl | rfl
  · exact ⟨by decide, by decide, by decide, fun q => by rcases q with q | q <;> exact absurd q (by decide), fun q => absurd q (by decide)⟩
  · exact ⟨by decide, by decide, by decide, fun q => by rcases q with q | q <;> exact absurd q (by decide), fun q => absurd q (by decide)⟩
  · exact ⟨by decide, by decide, by decide, fun q => by rcases q with q | q <;> exact absurd q (by decide), fun q => absurd q (by decide)⟩
theorem kMul_k : ∀ κ op, kMul κ = some op → κ ≠ -1 ∧ isOp op false := by
  intro κ op h
  unfold kMul at h
  by_cases c : κ = 42
  · rw [if_pos c] at h
    rw [c]
    exact ⟨by decide, ar_op (Or.inr (Or.inr (Option.some.inj h).symm))⟩
  · rw [if_neg c] at h; cases h
theorem i400 {i : Nat} (h : i < 400) : nI i < 400 := nI_lt (b := 400) h (by decide)
theorem product_c (F : St → Nat → Option (Int32 × St)) : LpC kMul (f7_factor F) (f7_product_p11 F) := by
  refine ⟨fun f σ i L hi h => ?_, fun f σ i op σ1 σ2 L hi h a1 a2 L1 => ?_, fun f σ i op σ1 σ2 σ3 L hi h a1 a2 L1 L2 a3 => ?_⟩ <;> unfold kMul at h
  · by_cases c : sI σ 46 8 = 42
    · rw [if_pos c] at h; cases h
    · rw [f7_product_p11, if_pos (i400 hi), gd_t (oL46 L), if_neg c]
  · by_cases c : sI σ 46 8 = 42
    · rw [f7_product_p11, if_pos (i400 hi), gd_t (oL46 L), if_pos c, bd_s a1, bd_s a2, if_pos rfl]
    · rw [if_neg c] at h; cases h
  · by_cases c : sI σ 46 8 = 42
    · rw [if_pos c] at h
      have eo : (-3 : Int32) = op := Option.some.inj h
      rw [f7_product_p11, if_pos (i400 hi), gd_t (oL46 L), if_pos c, bd_s a1, bd_s a2, if_neg (by decide), lt_b, rL46_5 L2, gd_t nz_s, gd_t (oL52 L2), eo, bd_s a3, lt_b, nI_1]
    · rw [if_neg c] at h; cases h
theorem product_m {t : Nat → Int32} {s : Nat} (B : Byt t s) (G : St → Nat → Option (Unit × St)) : LpM t s kMul (f12_factor G) (f12_product_p4 G) := by
  refine ⟨fun f ρ h => productL_f h G f, fun f ρ p M Tp Tk m40 h => ?_, fun f ρ p op ρ1 ρ2 ρ3 M Tp Tk m40 h a1 a2 M2 a3 => ?_⟩
  · unfold kMul at h
    have sg : f12_isSign ρ 101 42 = some (if tkF t s p = 42 then 1 else 0, ρ) := isSign_s (d := 42) B M Tk (by decide)
    by_cases c : tkF t s p = 42
    · rw [if_pos c] at h; cases h
    · rw [f12_product_p4, gd_t (oL101 M), bd_s (isWell_w M m40), if_neg (by decide), bd_s sg, ite_B, if_neg c]
  · unfold kMul at h
    have sg : f12_isSign ρ 101 42 = some (if tkF t s p = 42 then 1 else 0, ρ) := isSign_s (d := 42) B M Tk (by decide)
    by_cases c : tkF t s p = 42
    · rw [if_pos c] at h
      have eo : (-3 : Int32) = op := Option.some.inj h
      rw [← eo] at a3
      rw [f12_product_p4, gd_t (oL101 M), bd_s (isWell_w M m40), if_neg (by decide), bd_s sg, ite_B, if_pos c, bd_s a1, bd_s a2, show (-3 : Int32) = mpF (-3) by decide, bd_s a3]
    · rw [if_neg c] at h; cases h
theorem product_s {t : Nat → Int32} {s N nX nY o : Nat} {F : St → Nat → Option (Int32 × St)} {G : St → Nat → Option (Unit × St)} (C : Ctx t s N) (H : ESp t s N nX false o (f7_factor F) (f12_factor G)) (hn : nX + 1 ≤ nY) : ESp t s N nY false o (f7_product F) (f12_product G) :=
  op_all C (product_c F) (product_m C.2.1 G) kMul_k H hn (fun σ σ1 L h => by unfold f7_product; rw [gd_t (oL46 L), bd_s h, if_pos rfl]) (fun σ σ1 L h => by unfold f7_product; rw [gd_t (oL46 L), bd_s h, if_neg (by decide)]) (fun ρ ρ1 M h => by unfold f12_product; rw [gd_t (oL101 M), bd_s h])
/-! sums -/
def kAdd (κ : Int32) : Option Int32 := if κ = 43 then some (-1) else if κ = 45 then some (-2) else none
theorem kAdd_k : ∀ κ op, kAdd κ = some op → κ ≠ -1 ∧ isOp op false := by
  intro κ op h
  unfold kAdd at h
  by_cases c : κ = 43
  · rw [if_pos c] at h
    rw [c]
    exact ⟨by decide, ar_op (Or.inl (Option.some.inj h).symm)⟩
  · rw [if_neg c] at h
    by_cases d : κ = 45
    · rw [if_pos d] at h
      rw [d]
      exact ⟨by decide, ar_op (Or.inr (Or.inl (Option.some.inj h).symm))⟩
    · rw [if_neg d] at h; cases h
theorem sum_c (F : St → Nat → Option (Int32 × St)) : LpC kAdd (f7_product F) (f7_sum_p11 F) := by
  refine ⟨fun f σ i L hi h => ?_, fun f σ i op σ1 σ2 L hi h a1 a2 L1 => ?_, fun f σ i op σ1 σ2 σ3 L hi h a1 a2 L1 L2 a3 => ?_⟩ <;> unfold kAdd at h
  · by_cases c : sI σ 46 8 = 43
    · rw [if_pos c] at h; cases h
    · rw [if_neg c] at h
      by_cases d : sI σ 46 8 = 45
      · rw [if_pos d] at h; cases h
      · rw [f7_sum_p11, if_pos (i400 hi), gd_t (oL46 L), if_neg c, if_neg d]
  · have e51 : ∀ x, f7_sum_p51 F (f7_sum_p11 F f) σ 46 (nI i) x = some (0, σ2) := fun x => by
      unfold f7_sum_p51
      rw [gd_t (oL46 L), bd_s a1, bd_s a2, if_pos rfl]
    have e36 : f7_sum_p36 F (f7_sum_p11 F f) σ 46 (nI i) = some (0, σ2) := by
      unfold f7_sum_p36
      rw [gd_t (oL46 L), e51, e51]
      by_cases c : sI σ 46 8 = 43
      · rw [if_pos c]
      · rw [if_neg c]
    by_cases c : sI σ 46 8 = 43
    · rw [f7_sum_p11, if_pos (i400 hi), gd_t (oL46 L), if_pos c, e36]
    · rw [if_neg c] at h
      by_cases d : sI σ 46 8 = 45
      · rw [f7_sum_p11, if_pos (i400 hi), gd_t (oL46 L), if_neg c, if_pos d, e36]
      · rw [if_neg d] at h; cases h
  · have e51 : f7_sum_p51 F (f7_sum_p11 F f) σ 46 (nI i) op = f7_sum_p11 F f σ3 46 (nI (i + 1)) := by
      unfold f7_sum_p51
      rw [gd_t (oL46 L), bd_s a1, bd_s a2, if_neg (by decide), lt_b, rL46_5 L2, gd_t nz_s, gd_t (oL52 L2), bd_s a3, lt_b, nI_1]
    by_cases c : sI σ 46 8 = 43
    · rw [if_pos c] at h
      rw [← Option.some.inj h] at e51
      rw [f7_sum_p11, if_pos (i400 hi), gd_t (oL46 L), if_pos c]
      unfold f7_sum_p36
      rw [gd_t (oL46 L), if_pos c, e51]
    · rw [if_neg c] at h
      by_cases d : sI σ 46 8 = 45
      · rw [if_pos d] at h
        rw [← Option.some.inj h] at e51
        rw [f7_sum_p11, if_pos (i400 hi), gd_t (oL46 L), if_neg c, if_pos d]
        unfold f7_sum_p36
        rw [gd_t (oL46 L), if_neg c, e51]
      · rw [if_neg d] at h; cases h
theorem sum_m {t : Nat → Int32} {s : Nat} (B : Byt t s) (G : St → Nat → Option (Unit × St)) : LpM t s kAdd (f12_product G) (f12_sum_p4 G) := by
  refine ⟨fun f ρ h => sumL_f h G f, fun f ρ p M Tp Tk m40 h => ?_, fun f ρ p op ρ1 ρ2 ρ3 M Tp Tk m40 h a1 a2 M2 a3 => ?_⟩
  · unfold kAdd at h
    have s3 : f12_isSign ρ 101 43 = some (if tkF t s p = 43 then 1 else 0, ρ) := isSign_s (d := 43) B M Tk (by decide)
    have s5 : f12_isSign ρ 101 45 = some (if tkF t s p = 45 then 1 else 0, ρ) := isSign_s (d := 45) B M Tk (by decide)
    by_cases c : tkF t s p = 43
    · rw [if_pos c] at h; cases h
    · rw [if_neg c] at h
      by_cases d : tkF t s p = 45
      · rw [if_pos d] at h; cases h
      · rw [f12_sum_p4, gd_t (oL101 M), bd_s (isWell_w M m40), if_neg (by decide), bd_s s3, ite_B, if_neg c, bd_s s5, ite_B, if_neg d]
  · unfold kAdd at h
    have s3 : f12_isSign ρ 101 43 = some (if tkF t s p = 43 then 1 else 0, ρ) := isSign_s (d := 43) B M Tk (by decide)
    have s5 : f12_isSign ρ 101 45 = some (if tkF t s p = 45 then 1 else 0, ρ) := isSign_s (d := 45) B M Tk (by decide)
    have e55 : ∀ x, f12_emits ρ2 101 x = some ((), ρ3) → f12_sum_p55 G (f12_sum_p4 G f) ρ2 101 x 101 = f12_sum_p4 G f ρ3 101 := fun x hx => by
      unfold f12_sum_p55
      rw [gd_t (oL101 M2), bd_s hx]
    by_cases c : tkF t s p = 43
    · rw [if_pos c] at h
      rw [← Option.some.inj h, show mpF (-1) = -1 by decide] at a3
      rw [f12_sum_p4, gd_t (oL101 M), bd_s (isWell_w M m40), if_neg (by decide), bd_s s3, ite_B, if_pos c]
      unfold f12_sum_p29
      rw [gd_t (oL101 M), bd_s s3, bd_s a1, bd_s a2, ite_B, if_pos c, e55 _ a3]
    · rw [if_neg c] at h
      by_cases d : tkF t s p = 45
      · rw [if_pos d] at h
        rw [← Option.some.inj h, show mpF (-2) = -2 by decide] at a3
        rw [f12_sum_p4, gd_t (oL101 M), bd_s (isWell_w M m40), if_neg (by decide), bd_s s3, ite_B, if_neg c, bd_s s5, ite_B, if_pos d]
        unfold f12_sum_p29
        rw [gd_t (oL101 M), bd_s s3, bd_s a1, bd_s a2, ite_B, if_neg c, e55 _ a3]
      · rw [if_neg d] at h; cases h
theorem sumB_s {t : Nat → Int32} {s N nX nY o : Nat} {F : St → Nat → Option (Int32 × St)} {G : St → Nat → Option (Unit × St)} (C : Ctx t s N) (H : ESp t s N nX false o (f7_product F) (f12_product G)) (hn : nX + 1 ≤ nY) : ESp t s N nY false o (f7_sum_b F) (f12_sum_b G) :=
  op_all C (sum_c F) (sum_m C.2.1 G) kAdd_k H hn (fun σ σ1 L h => by unfold f7_sum_b; rw [gd_t (oL46 L), bd_s h, if_pos rfl]) (fun σ σ1 L h => by unfold f7_sum_b; rw [gd_t (oL46 L), bd_s h, if_neg (by decide)]) (fun ρ ρ1 M h => by unfold f12_sum_b; rw [gd_t (oL101 M), bd_s h])
theorem sumN_s {t : Nat → Int32} {s N : Nat} (C : Ctx t s N) : ∀ n o, o ≤ 4 → 6 ≤ n + o → ESp t s N (3 + 2 * (4 - o)) false o (f7_sum n) (f12_sum n) := by
  intro n
  induction n with
  | zero => intro o h1 h2; omega
  | succ n ih =>
    intro o h1 h2
    have hf : ESp t s N (1 + 2 * (4 - o)) false o (f7_factor (f7_sum n)) (f12_factor (f12_sum n)) := factor_s (ndr := 3 + 2 * (4 - (o + 1))) C h1 (by omega) (fun h4 => ⟨by omega, ih (o + 1) (by omega) (by omega)⟩) (fun ρ hρ => by
      obtain ⟨m, rfl, -⟩ := suc_of (show 0 < n by omega)
      exact sum_f hρ m)
    exact sumB_s C (product_s (nY := 2 + 2 * (4 - o)) C hf (by omega)) (by omega)
