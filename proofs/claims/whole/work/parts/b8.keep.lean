/-! A TEXT IS KEPT: its cells copied, the book told -/
def TxS (σ τ : St) (a b C R : Nat) : Prop := (∀ i, i < C → sI τ (b + 1) i = sI σ (a + 1) i) ∧ ∀ q, q < 4 → ∀ i, i < R → sI τ (b + 2 + q) i = sI σ (a + 2 + q) i
theorem TxS_2 {σ τ : St} {a b C R : Nat} (S : TxS σ τ a b C R) : ∀ i, i < R → sI τ (b + 2) i = sI σ (a + 2) i := S.2 0 (by decide)
theorem TxS_3 {σ τ : St} {a b C R : Nat} (S : TxS σ τ a b C R) : ∀ i, i < R → sI τ (b + 3) i = sI σ (a + 3) i := S.2 1 (by decide)
theorem TxS_4 {σ τ : St} {a b C R : Nat} (S : TxS σ τ a b C R) : ∀ i, i < R → sI τ (b + 4) i = sI σ (a + 4) i := S.2 2 (by decide)
theorem TxS_5 {σ τ : St} {a b C R : Nat} (S : TxS σ τ a b C R) : ∀ i, i < R → sI τ (b + 5) i = sI σ (a + 5) i := S.2 3 (by decide)
theorem TxS_f {σ τ : St} {a b C R : Nat} (S : TxS σ τ a b C R) : (∀ i, i < R → enF τ b i = enF σ a i) ∧ (∀ i, i ≤ R → stF τ b i = stF σ a i) ∧ ∀ i, i ≤ R → ltF τ b i = ltF σ a i := by
  have en : ∀ i, i < R → enF τ b i = enF σ a i := fun i hi => by unfold enF; rw [TxS_3 S i hi]
  refine ⟨en, fun i hi => ?_, fun i => ?_⟩
  · cases i with
    | zero => rfl
    | succ i => exact en i (by omega)
  · induction i with
    | zero => intro _; rfl
    | succ i ih => intro hi; unfold ltF; rw [TxS_2 S i (by omega), ih (by omega)]
theorem TxS_Ok {σ τ : St} {a b C R : Nat} (S : TxS σ τ a b C R) (ok : TxOk σ a C R) : TxOk τ b C R := by
  obtain ⟨en, st, lt⟩ := TxS_f S
  refine ⟨by rw [lt R (Nat.le_refl _)]; exact ok.1, fun i hi => ?_⟩
  obtain ⟨o1, o2, o3, o4, o5, o6, o7, o8⟩ := ok.2 i hi
  rw [TxS_2 S i hi, TxS_3 S i hi, TxS_4 S i hi, TxS_5 S i hi, en i hi, st i (by omega), lt i (by omega)]
  exact ⟨o1, o2, o3, o4, Sg_cg o5 (fun q _ h2 => (S.1 q (by omega)).symm), o6, o7, o8⟩
def Wal (x k : Nat) : Prop := x = 45 ∧ k = 24
theorem copy_s {σ : St} {c r : Nat} (L : Lay σ) (hc : c ≤ 400) (hr : r ≤ 20) (h5 : sI σ 52 5 = nI c) (h6 : sI σ 52 6 = nI r) :
    ∃ τ, f10_copy σ 52 = some (sN σ + 1, τ) ∧ Fr Wal σ τ ∧ sN τ = sN σ + 6 ∧ sU τ = sU σ + (7 + c + 4 * r) ∧ TxC τ (sN σ + 1) c r ∧ TxS σ τ 52 (sN σ + 1) c r := by
  have hN := L.2.2
  obtain ⟨τ, e, f, n, u, ⟨k0, k1, k2⟩, rr⟩ := nw_s (W := Wal) ⟨rfl, rfl⟩ (σ := σ) (c := c) (r := r)
  have L0 := Lay_Fr f L
  have n0 : sN (wN σ 10 7) = sN σ + 1 := rfl
  have o52 : ob (wN σ 10 7) 52 10 = true := oL52 (Lay_Fr (Fr_wN (W := Wal) ⟨rfl, rfl⟩ Fr_rf) L)
  have i52 : ∀ q, sI (wN σ 10 7) 52 q = sI σ 52 q := fun q => if_neg (show ¬ 52 = sN σ + 1 by omega)
  have oa : ob (wN σ 10 7) (sN σ + 1) 10 = true := ob_mk (n := 7) (if_pos rfl) (by omega) (by rw [n0]; omega)
  have it := init_s (σ := wN σ 10 7) (a := sN σ + 1) (c := c) (r := r) oa hc hr
  rw [e] at it
  -- one row copied
  have st : ∀ υ x b m, Fr (Wal) σ υ → sN σ + 1 < b → ∃ ω, wCp υ x 0 b 0 m = ω ∧ Fr (Wal) σ ω ∧ sN ω = sN υ ∧ sU ω = sU υ ∧ sK ω = sK υ ∧ sR ω = sR υ ∧ (∀ q, q < m → sI ω b q = sI υ x q) ∧ ∀ y, y ≠ b → ∀ q, sI ω y q = sI υ y q := fun υ x b m hf hb =>
    ⟨_, rfl, Fr_cp hf (Or.inr (by omega)), rfl, rfl, rfl, rfl, fun q hq => cp_in hq, fun y hy q => cp_out hy q⟩
  have v5 : sI τ 52 5 = nI c := by rw [Fr_i f (by omega) (by unfold Wal; omega)]; exact h5
  have v6 : sI τ 52 6 = nI r := by rw [Fr_i f (by omega) (by unfold Wal; omega)]; exact h6
  obtain ⟨τ1, e1, f1, n1, u1, K1, R1, q1, o1⟩ := st τ 53 (sN σ + 2) c f (by omega)
  obtain ⟨τ2, e2, f2, n2, u2, K2, R2, q2, o2⟩ := st τ1 54 (sN σ + 3) r f1 (by omega)
  obtain ⟨τ3, e3, f3, n3, u3, K3, R3, q3, o3⟩ := st τ2 55 (sN σ + 4) r f2 (by omega)
  obtain ⟨τ4, e4, f4, n4, u4, K4, R4, q4, o4⟩ := st τ3 56 (sN σ + 5) r f3 (by omega)
  obtain ⟨τ5, e5, f5, n5, u5, K5, R5, q5, o5⟩ := st τ4 57 (sN σ + 6) r f4 (by omega)
  have L1 := Lay_Fr f1 L
  have L2 := Lay_Fr f2 L
  have L3 := Lay_Fr f3 L
  have L4 := Lay_Fr f4 L
  have L5 := Lay_Fr f5 L
  have w6 : ∀ υ, Fr (Wal) σ υ → sI υ 52 5 = nI c ∧ sI υ 52 6 = nI r := fun υ hf => ⟨by rw [Fr_i hf (by omega) (by unfold Wal; omega)]; exact h5, by rw [Fr_i hf (by omega) (by unfold Wal; omega)]; exact h6⟩
  -- what stands in the new cells, at each step
  have obs : ∀ υ, sK υ = sK τ → sN υ = sN τ → ob υ (sN σ + 1) 10 = true ∧ ob υ (sN σ + 2) 14 = true ∧ ∀ q, q < 4 → ob υ (sN σ + 3 + q) 14 = true := fun υ a b =>
    ⟨ob_mk (n := 7) (by rw [a]; exact k0) (by omega) (by omega), ob_mk (n := c) (by rw [a]; exact k1) (by omega) (by omega), fun q hq => ob_mk (n := r) (by rw [a]; exact k2 q hq) (by omega) (by omega)⟩
  have ob0 := obs τ rfl rfl
  have ob1 := obs τ1 K1 n1
  have ob2 := obs τ2 (K2.trans K1) (n2.trans n1)
  have ob3 := obs τ3 (K3.trans (K2.trans K1)) (n3.trans (n2.trans n1))
  have ob4 := obs τ4 (K4.trans (K3.trans (K2.trans K1))) (n4.trans (n3.trans (n2.trans n1)))
  have KK5 : sK τ5 = sK τ := K5.trans (K4.trans (K3.trans (K2.trans K1)))
  have RR5 : sR τ5 = sR τ := R5.trans (R4.trans (R3.trans (R2.trans R1)))
  have NN5 : sN τ5 = sN τ := n5.trans (n4.trans (n3.trans (n2.trans n1)))
  have ob5 := obs τ5 KK5 NN5
  have r0 : sR τ (sN σ + 1) 0 = sN σ + 2 := rr 0 (by decide)
  have r1 : sR τ1 (sN σ + 1) 1 = sN σ + 3 := by rw [R1]; exact rr 1 (by decide)
  have r2 : sR τ2 (sN σ + 1) 2 = sN σ + 4 := by rw [R2, R1]; exact rr 2 (by decide)
  have r3 : sR τ3 (sN σ + 1) 3 = sN σ + 5 := by rw [R3, R2, R1]; exact rr 3 (by decide)
  have r4 : sR τ4 (sN σ + 1) 4 = sN σ + 6 := by rw [R4, R3, R2, R1]; exact rr 4 (by decide)
  refine ⟨wI (wI τ5 (sN σ + 1) 5 (nI c)) (sN σ + 1) 6 (nI r), ?_, ?_, ?_, ?_, ⟨⟨?_, by omega, hc, hr, ?_⟩, ⟨?_, ?_, ?_, ?_, ?_⟩, ?_, ?_, ?_⟩, ?_, ?_⟩
  · unfold f10_copy
    rw [lt_b, lt_b, gd_t o52, i52, i52, h5, h6, bd_s it, lt_b, rL52_0 L0, gd_t nz_s, gd_t ob0.1, lt_b, r0, gd_t nz_s, gd_t (oL53 L0), gd_t ob0.2.1, v5, gd_t (cp_ok (by rw [lL53 L0]; omega) (by rw [k1]; exact Nat.le_refl _) (by omega)), lt_b, show ix (0 : Int32) = 0 from rfl, ix_n (k := c) (by omega), e1]
    rw [lt_b, rL52_1 L1, gd_t nz_s, lt_b, r1, gd_t nz_s, gd_t (oL54 L1), gd_t (ob1.2.2 0 (by decide)), (w6 τ1 f1).2, gd_t (cp_ok (by rw [lL54 L1]; omega) (by rw [K1, k2 0 (by decide)]; exact Nat.le_refl _) (by omega)), lt_b, ix_n (k := r) (by omega), e2]
    rw [lt_b, rL52_2 L2, gd_t nz_s, lt_b, r2, gd_t nz_s, gd_t (oL55 L2), gd_t (ob2.2.2 1 (by decide)), (w6 τ2 f2).2, gd_t (cp_ok (b := sN σ + 4) (by rw [lL55 L2]; omega) (by rw [K2, K1]; exact Nat.le_of_eq (congrArg Prod.snd (k2 1 (by decide))).symm) (by omega)), lt_b, ix_n (k := r) (by omega), e3]
    rw [lt_b, rL52_3 L3, gd_t nz_s, lt_b, r3, gd_t nz_s, gd_t (oL56 L3), gd_t (ob3.2.2 2 (by decide)), (w6 τ3 f3).2, gd_t (cp_ok (b := sN σ + 5) (by rw [lL56 L3]; omega) (by rw [K3, K2, K1]; exact Nat.le_of_eq (congrArg Prod.snd (k2 2 (by decide))).symm) (by omega)), lt_b, ix_n (k := r) (by omega), e4]
    rw [lt_b, rL52_4 L4, gd_t nz_s, lt_b, r4, gd_t nz_s, gd_t (oL57 L4), gd_t (ob4.2.2 3 (by decide)), (w6 τ4 f4).2, gd_t (cp_ok (b := sN σ + 6) (by rw [lL57 L4]; omega) (by rw [K4, K3, K2, K1]; exact Nat.le_of_eq (congrArg Prod.snd (k2 3 (by decide))).symm) (by omega)), lt_b, ix_n (k := r) (by omega), e5]
    rw [(w6 τ5 f5).1, lt_b, sI_wo (by omega), (w6 τ5 f5).2, lt_b]
  · exact Fr_wI (Fr_wI f5 (Or.inr (by omega))) (Or.inr (by omega))
  · show sN τ5 = _
    omega
  · show sU τ5 = _
    omega
  · exact ob5.1
  · exact sI_w1 _ _ _ _
  · show sR τ5 _ _ = _
    rw [RR5]; exact rr 0 (by decide)
  · show sR τ5 _ _ = _
    rw [RR5]; exact rr 1 (by decide)
  · show sR τ5 _ _ = _
    rw [RR5]; exact rr 2 (by decide)
  · show sR τ5 _ _ = _
    rw [RR5]; exact rr 3 (by decide)
  · show sR τ5 _ _ = _
    rw [RR5]; exact rr 4 (by decide)
  · intro q hq
    show ob τ5 _ 14 = true
    by_cases z : q = 0
    · rw [z]; exact ob5.2.1
    · have := ob5.2.2 (q - 1) (by omega)
      rw [show sN σ + 3 + (q - 1) = sN σ + 1 + 1 + q by omega] at this
      exact this
  · show (sK τ5 (sN σ + 2)).2 = c
    rw [KK5, k1]
  · intro q hq
    show (sK τ5 (sN σ + 3 + q)).2 = r
    rw [KK5, k2 q hq]
  · intro i hi
    rw [sI_wo (by omega), sI_wo (by omega)]
    show sI τ5 (sN σ + 2) i = sI σ 53 i
    rw [o5 _ (by omega), o4 _ (by omega), o3 _ (by omega), o2 _ (by omega), q1 i hi, Fr_i f (by omega) (by unfold Wal; omega)]
  · intro q hq i hi
    rw [sI_wo (by omega), sI_wo (by omega)]
    show sI τ5 (sN σ + 3 + q) i = sI σ (54 + q) i
    have : q = 0 ∨ q = 1 ∨ q = 2 ∨ q = 3 := by omega
    rcases this with rfl | rfl | rfl | rfl
    · rw [o5 _ (by omega), o4 _ (by omega), o3 _ (by omega)]
      show sI τ2 (sN σ + 3) i = _
      rw [q2 i hi, Fr_i f1 (by omega) (by unfold Wal; omega)]
    · rw [o5 _ (by omega), o4 _ (by omega)]
      show sI τ3 (sN σ + 4) i = _
      rw [q3 i hi, Fr_i f2 (by omega) (by unfold Wal; omega)]
    · rw [o5 _ (by omega)]
      show sI τ4 (sN σ + 5) i = _
      rw [q4 i hi, Fr_i f3 (by omega) (by unfold Wal; omega)]
    · show sI τ5 (sN σ + 6) i = _
      rw [q5 i hi, Fr_i f4 (by omega) (by unfold Wal; omega)]
