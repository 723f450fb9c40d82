/-! CELLS THAT LIE ABOUT: the memory is numbered anew past them; all holds as before -/
def sq (ρ : Nat → Nat) (σ : St) : St := (sK σ, sI σ, sL σ, fun a j => ρ (sR σ a j), sN σ, sU σ)
def rh (N g r : Nat) : Nat := if r ≤ N then r else if STR ≤ r then (if r < STR + 300 then r else r + g) else if r < N + 1 + g then STR + 300 + (r - (N + 1)) else r - g
def adh (N g Z : Nat) (ad : Nat → Nat) (x : Nat) : Nat := if x ≤ N then ad x else if x < STR then Z + g + (x - (N + 1)) else if x < STR + 300 then ad x else if x < STR + 300 + g then Z + (x - (STR + 300)) else ad (x - g)
theorem adh_lo {N g Z : Nat} {ad : Nat → Nat} {x : Nat} (h : x ≤ N) : adh N g Z ad x = ad x := if_pos h
theorem adh_hi {N g Z : Nat} {ad : Nat → Nat} {x : Nat} (hN : N < STR) (h : STR ≤ x) (h2 : x < STR + 300) : adh N g Z ad x = ad x := by
  unfold adh
  rw [if_neg (by omega), if_neg (by omega), if_pos h2]
theorem adh_mid {N g Z : Nat} {ad : Nat → Nat} {j : Nat} (h : N + 1 + j < STR) : adh N g Z ad (N + 1 + j) = Z + g + j := by
  unfold adh
  rw [if_neg (by omega), if_pos h]
  omega
theorem rh_lo {N g r : Nat} (h : r ≤ N) : rh N g r = r := if_pos h
theorem adh_rh {N g Z : Nat} {ad : Nat → Nat} (hN : N < STR) (h : ∀ j, N + 1 + j < STR → ad (N + 1 + j) = Z + j) (r : Nat) : adh N g Z ad (rh N g r) = ad r := by
  by_cases h1 : r ≤ N
  · rw [rh_lo h1, adh_lo h1]
  · by_cases h2 : STR ≤ r
    · by_cases h3 : r < STR + 300
      · have e : rh N g r = r := by unfold rh; rw [if_neg h1, if_pos h2, if_pos h3]
        rw [e, adh_hi hN h2 h3]
      · have e : rh N g r = r + g := by unfold rh; rw [if_neg h1, if_pos h2, if_neg h3]
        rw [e]
        unfold adh
        rw [if_neg (by omega), if_neg (by omega), if_neg (by omega), if_neg (by omega), Nat.add_sub_cancel]
    · have hr : ad r = Z + (r - (N + 1)) := by
        have := h (r - (N + 1)) (by omega)
        rw [show N + 1 + (r - (N + 1)) = r by omega] at this
        exact this
      by_cases h3 : r < N + 1 + g
      · have e : rh N g r = STR + 300 + (r - (N + 1)) := by unfold rh; rw [if_neg h1, if_neg h2, if_pos h3]
        rw [e, hr]
        unfold adh
        rw [if_neg (by omega), if_neg (by omega), if_neg (by omega), if_pos (by omega), Nat.add_sub_cancel_left]
      · have e : rh N g r = r - g := by unfold rh; rw [if_neg h1, if_neg h2, if_neg h3]
        rw [e, hr]
        unfold adh
        rw [if_neg (by omega), if_pos (by omega)]
        omega
theorem rh_nz {N g r : Nat} : rh N g r = 0 ↔ r = 0 := by
  unfold rh
  by_cases h1 : r ≤ N
  · rw [if_pos h1]
  · rw [if_neg h1]
    by_cases h2 : STR ≤ r
    · rw [if_pos h2]
      by_cases h3 : r < STR + 300
      · rw [if_pos h3]
      · rw [if_neg h3]; omega
    · rw [if_neg h2]
      by_cases h3 : r < N + 1 + g
      · rw [if_pos h3]; omega
      · rw [if_neg h3]; omega
theorem rO_rh {N g Z : Nat} {ad : Nat → Nat} (hN : N < STR) (h : ∀ j, N + 1 + j < STR → ad (N + 1 + j) = Z + j) (r : Nat) : rO (adh N g Z ad) (rh N g r) = rO ad r := by
  unfold rO
  rw [adh_rh hN h]
  by_cases h0 : r = 0
  · rw [if_pos h0, if_pos (rh_nz.mpr h0)]
  · rw [if_neg h0, if_neg (fun w => h0 (rh_nz.mp w))]
theorem cel_h {N g Z : Nat} {ad : Nat → Nat} {cy : Nat → ClassId} {σ : St} (hN : N < STR) (h : ∀ j, N + 1 + j < STR → ad (N + 1 + j) = Z + j) (a : Nat) : cel (adh N g Z ad) cy (sq (rh N g) σ) a = cel ad cy σ a := by
  have e1 : ∀ t i r, fV (adh N g Z ad) t i (rh N g r) = fV ad t i r := fun t i r => by unfold fV; rw [rO_rh hN h]
  have e2 : ∀ ci, flds (adh N g Z ad) ci (sq (rh N g) σ) a = flds ad ci σ a := fun ci => by
    unfold flds
    exact List.map_congr_left (fun j _ => e1 _ _ _)
  have e3 : (fun i => rO (adh N g Z ad) (sR (sq (rh N g) σ) a i)) = (fun i => rO ad (sR σ a i)) := funext fun i => rO_rh hN h _
  unfold cel
  rw [e2, e3]
  rfl
theorem wld_h {g Z : Nat} {ad : Nat → Nat} {cy : Nat → ClassId} {σ : St} (hN : sN σ < STR) (h : ∀ j, sN σ + 1 + j < STR → ad (sN σ + 1 + j) = Z + j) : wld (adh (sN σ) g Z ad) cy (sq (rh (sN σ) g) σ) = wld ad cy σ := by
  unfold wld
  refine List.map_congr_left (fun k hk => ?_)
  have hk2 : k < sN σ := List.mem_range.mp hk
  rw [cel_h hN h, adh_lo (by omega)]
theorem Cx_h {N g Z : Nat} {ad : Nat → Nat} {cy dC : Nat → ClassId} {dI : Nat → Nat → Nat} {B0 : Nat} {U : State} (hN : N < STR) (h : Cx ad cy dC dI B0 U) : Cx (adh N g Z ad) cy dC dI B0 U := by
  obtain ⟨hK, hNw, h1, h2, h3, h4, h5, h6, h7, h8, h9, h10⟩ := h
  have e : ∀ i, i < 300 → adh N g Z ad (STR + i) = ad (STR + i) := fun i hi => adh_hi hN (Nat.le_add_right _ _) (Nat.add_lt_add_left hi _)
  refine ⟨hK, hNw, h1, ⟨fun i hi => ?_, fun i j hi hj he => h2.2 i j hi hj ?_⟩, h3, ?_, fun q hq => ?_, h6, h7, h8, h9, h10⟩
  · have := h2.1 i hi
    show va_O _ (adh N g Z ad (STR + i)) _ _ _ ∧ va_OF _ _ _ _ (adh N g Z ad (STR + i)) _ _ _ ∧ va_OF _ _ _ (.ref (adh N g Z ad (STR + 32 + i))) (adh N g Z ad (STR + i)) _ _ _ ∧ va_T _ (adh N g Z ad (STR + 32 + i)) _ _ _ _ _
    rw [e i (by omega), show STR + 32 + i = STR + (32 + i) from Nat.add_assoc _ _ _, e (32 + i) (by omega), ← show STR + 32 + i = STR + (32 + i) from Nat.add_assoc _ _ _]
    exact this
  · have he2 : adh N g Z ad (STR + i) = adh N g Z ad (STR + j) := he
    rw [e i (by omega), e j (by omega)] at he2
    exact he2
  · rw [e 64 (by decide)]; exact h4
  · have hi := (st_idx q hq).1
    rw [e _ (by omega)]; exact h5 q hq
/-! the groups -/
section
variable {σ : St} {ρ : Nat → Nat}
theorem sR_sq (a j : Nat) : sR (sq ρ σ) a j = ρ (sR σ a j) := rfl
theorem Lay_sq (L : Lay σ) (h : ∀ r, r ≤ sN σ → ρ r = r) : Lay (sq ρ σ) := by
  have hN := L.2.2
  have h2 : ∀ r, r ≤ 153 → ρ r = r := fun r hr => h r (by omega)
  refine ⟨L.1, ?_, L.2.2⟩
  have hR := L.2.1
  unfold LayR at hR ⊢
  simp only [sR_sq, hR]
  simp (disch := omega) only [h2, and_self]
theorem TxC_sq (h : ∀ r, r ≤ sN σ → ρ r = r) {a C R : Nat} (t : TxC σ a C R) : TxC (sq ρ σ) a C R := by
  obtain ⟨c1, ⟨d0, d1, d2, d3, d4⟩, e5, f, g⟩ := t
  have k : ∀ q, q < 5 → a + 1 + q ≤ sN σ := fun q hq => (ob_spec (e5 q hq)).2.2
  refine ⟨c1, ⟨?_, ?_, ?_, ?_, ?_⟩, e5, f, g⟩
  · rw [sR_sq, d0]; exact h _ (by have := k 0 (by decide); omega)
  · rw [sR_sq, d1]; exact h _ (by have := k 1 (by decide); omega)
  · rw [sR_sq, d2]; exact h _ (by have := k 2 (by decide); omega)
  · rw [sR_sq, d3]; exact h _ (by have := k 3 (by decide); omega)
  · rw [sR_sq, d4]; exact h _ (by have := k 4 (by decide); omega)
theorem stF_sq (a : Nat) : ∀ r, stF (sq ρ σ) a r = stF σ a r
  | 0 => rfl
  | _ + 1 => rfl
theorem ltF_sq (a : Nat) : ∀ r, ltF (sq ρ σ) a r = ltF σ a r := by
  intro r
  induction r with
  | zero => rfl
  | succ r ih =>
    show (if sI σ (a + 2) r = 256 then ltF (sq ρ σ) a r + 1 else ltF (sq ρ σ) a r) = (if sI σ (a + 2) r = 256 then ltF σ a r + 1 else ltF σ a r)
    rw [ih]
theorem TxOk_sq {a C R : Nat} (t : TxOk σ a C R) : TxOk (sq ρ σ) a C R := by
  unfold TxOk at t ⊢
  simp only [ltF_sq, stF_sq]
  exact t
theorem TxM_sq {a C R T : Nat} (t : TxM σ σ a C R T) : TxM (sq ρ σ) (sq ρ σ) a C R T := by
  unfold TxM at t ⊢
  simp only [stF_sq]
  exact t
theorem gX_sq (h : ∀ r, r ≤ sN σ → ρ r = r) {n : Nat → Nat} (g : gX σ n) : gX (sq ρ σ) n := by
  refine ⟨fun s hs => ?_, fun s hs => ?_⟩
  · obtain ⟨a1, a2, a3⟩ := g.1 s hs
    refine ⟨a1, a2, fun i hi => ?_⟩
    obtain ⟨b1, C, R, t1, t2⟩ := a3 i hi
    have e : sR (sq ρ σ) 45 (12 * s + i) = sR σ 45 (12 * s + i) := h _ (ob_spec t1.1.1).2.2
    rw [e]
    exact ⟨b1, C, R, TxC_sq h t1, TxOk_sq t2⟩
  · obtain ⟨-, -, a3⟩ := g.1 s hs
    obtain ⟨c1, c2⟩ := g.2 s hs
    refine ⟨c1, fun i hi => ?_⟩
    obtain ⟨-, C0, R0, t0, -⟩ := a3 i hi
    obtain ⟨d1, d2, d3⟩ := c2 i hi
    have e : sR (sq ρ σ) 45 (12 * s + i) = sR σ 45 (12 * s + i) := h _ (ob_spec t0.1.1).2.2
    rw [e]
    exact ⟨d1, d2, fun C R t => TxM_sq (d3 C R ⟨t.1, t0.2.1, t.2.2⟩)⟩
theorem INV_sq (I : INV σ) (h : ∀ r, r ≤ sN σ → ρ r = r) : INV (sq ρ σ) := by
  obtain ⟨n, e, p, q, o, v, s, tx, L, B, T, M, D, K, A, S, O, E, X, G, Q, P, hN, hU⟩ := I
  exact ⟨n, e, p, q, o, v, s, tx, Lay_sq L h, B, T, M, D, K, A, S, O, E, gX_sq h X, G, Q, P, hN, hU⟩
end
def Wmo (a k : Nat) : Prop := a = 101 ∧ k = 0 ∨ a = 153
theorem INV_mo {σ τ : St} (I : INV σ) (F : Fr Wmo σ τ) : INV τ := by
  obtain ⟨n, e, p, q, o, v, s, tx, L, B, T, M, D, K, A, S, O, E, X, G, Q, P, hN, hU⟩ := I
  exact ⟨n, e, p, q, o, v, s, tx, Lay_Fr F L, gB_Fr F L (fun a k h w => by unfold Wmo at w; omega) B, (gT_Fr F L (fun a k h w => by unfold fpT at h; unfold Wmo at w; omega) T).1, gM_Fr F L (fun a k h w => by unfold fpM at h; unfold Wmo at w; omega) M, gD_Fr F L (fun a k h w => by unfold Wmo at w; omega) D, gKK_Fr F L (fun a k h w => by unfold fpK at h; unfold Wmo at w; omega) K, gA_Fr F L (fun a k h w => by unfold fpA at h; unfold Wmo at w; omega) A, gS_Fr F L (fun a k h w => by unfold Wmo at w; omega) S, gO_Fr F L (fun a k h w => by unfold fpO at h; unfold Wmo at w; omega) O, gE_Fr F L (fun a k h w => by unfold fpE at h; unfold Wmo at w; omega) E, gX_Fr F L (fun a k h w => by unfold fpX fpC at h; unfold Wmo at w; omega) X, gG_Fr F L (fun a k h w => by unfold Wmo at w; omega) G, gQ_Fr F L (fun a k h w => by unfold Wmo at w; omega) Q, by rw [Fr_i F (a := 46) (k := 12) (by have := L.2.2; omega) (fun w => by unfold Wmo at w; omega), Fr_i F (a := 101) (k := 42) (by have := L.2.2; omega) (fun w => by unfold Wmo at w; omega)]; exact P, by rw [(Fr_nu F (fun w => by unfold Wmo at w; omega)).1]; exact hN, by rw [(Fr_nu F (fun w => by unfold Wmo at w; omega)).2]; exact hU⟩
/-! millOf's answers -/
def mvF (σ : St) (m : Nat) (w : Int32) : Int32 := if w = 0 then sI σ 6 m else if w = 1 then sI σ (29 + m) 0 else if w = 2 then sI σ (29 + m) 1 else if w = 3 then sI σ (29 + m) 2 else if w = 4 then wrF (sI σ (29 + m) 3) else if w = 5 then sI σ (29 + m) 4 else if w = 6 then sI σ (29 + m) 5 else if sI σ (29 + m) 6 = sI σ 1 8 then 1 else 0
theorem millOf_v {σ : St} (L : Lay σ) {n d : Nat} (g : gM σ n d) {m : Nat} (hm : m < n) {w : Int32} (hw : 0 ≤ w ∧ w ≤ 7) : f11_millOf σ 1 (nI m) w = some (mvF σ m w, σ) := by
  have n6 := g.ri.2.1
  have hb := lay_boat L (show m < 6 by omega)
  have ob6 := oboat L (show m < 6 by omega)
  have hh : 0 ≤ nI m ∧ nI m < sI σ 2 5 := ⟨nI_pos' (by omega), by rw [g.sz]; exact nI_lt hm (by omega)⟩
  unfold f11_millOf mvF
  rw [gd_t (oL1 L), lt_b, rL1_0 L, gd_t nz_s, gd_t (oL2 L), bd_s (has_s L), ite_B, if_pos hh, ck2 lt_nle, if_pos hw, lt_b, rL1_0 L, gd_t nz_s, gd_t (oL2 L), lt_b, rL2_2 L, gd_t nz_s, gd_t (oL5 L), gd_t (inb_n (lL5 L) (by omega) (by decide)), lt_b, ix_n (by omega), hb.1, gd_t (nz_t (by omega))]
  by_cases q0 : w = 0
  · rw [if_pos q0, if_pos q0, lt_b, rL2_3 L, gd_t nz_s, gd_t (oL6 L), gd_t (inb_n (lL6 L) (by omega) (by decide))]
  rw [if_neg q0, if_neg q0]
  by_cases q1 : w = 1
  · rw [if_pos q1, if_pos q1, gd_t ob6]
  rw [if_neg q1, if_neg q1]
  by_cases q2 : w = 2
  · rw [if_pos q2, if_pos q2, gd_t ob6]
  rw [if_neg q2, if_neg q2]
  by_cases q3 : w = 3
  · rw [if_pos q3, if_pos q3, gd_t ob6]
  rw [if_neg q3, if_neg q3]
  by_cases q4 : w = 4
  · rw [if_pos q4, if_pos q4, gd_t ob6, bd_s (worn_s L (by omega))]
  rw [if_neg q4, if_neg q4]
  by_cases q5 : w = 5
  · rw [if_pos q5, if_pos q5, gd_t ob6]
  rw [if_neg q5, if_neg q5]
  by_cases q6 : w = 6
  · rw [if_pos q6, if_pos q6, gd_t ob6]
  rw [if_neg q6, if_neg q6, gd_t ob6]
  by_cases c : sI σ (29 + m) 6 = sI σ 1 8
  · rw [if_pos c, if_pos c]
  · rw [if_neg c, if_neg c]
/-- the row gets the class's answer; the reference then gives it too -/
theorem mo_yes {σ : St} (I : INV σ) {k w : Int32} (r0 : Int32) (hr : f11_millOf σ 1 k w = some (r0, σ)) (hok : (0 ≤ k ∧ k < sI σ 2 5) ∧ (0 ≤ w ∧ w ≤ 7)) : f12_millOf (wL σ 153 0 r0.toInt64) 101 k w = some (r0, wI (wL σ 153 0 r0.toInt64) 101 0 0) ∧ INV (wL σ 153 0 r0.toInt64) ∧ INV (wI (wL σ 153 0 r0.toInt64) 101 0 0) := by
  have I1 : INV (wL σ 153 0 r0.toInt64) := INV_mo I (Fr_wL Fr_rf (Or.inl (Or.inr rfl)))
  refine ⟨?_, I1, INV_mo I1 (Fr_wI Fr_rf (Or.inl (Or.inl ⟨rfl, rfl⟩)))⟩
  have L0 := I.lay
  obtain ⟨n0, e0, p0, q0, o0, v0, s0, tx0, -, -, -, M0, -⟩ := I
  obtain ⟨n, e, p, q, o, v, s, tx, L, B, T, M, D, K, A, S, O, E, X, G, Q, P, hN, hU⟩ := I1
  obtain ⟨m, hm, rfl⟩ := has_n L0 M0 hok.1
  have en : n = n0 := by
    have h1 := M.sz
    have h2 := M0.sz
    have h3 : nI n = nI n0 := h1.symm.trans h2
    have h4 := congrArg Int32.toInt h3
    have b1 := M.ri.2.1
    have b2 := M0.ri.2.1
    rw [nI_toInt (by omega), nI_toInt (by omega)] at h4
    omega
  subst en
  obtain ⟨r, a1, a2⟩ := millOf_q L M D hm hok.2
  rw [millOf_v L0 M0 hm hok.2] at hr
  rw [millOf_v L M hm hok.2] at a1
  have e1 : mvF σ m w = r0 := congrArg Prod.fst (Option.some.inj hr)
  have e2 : mvF (wL σ 153 0 r0.toInt64) m w = r := congrArg Prod.fst (Option.some.inj a1)
  have e3 : mvF (wL σ 153 0 r0.toInt64) m w = mvF σ m w := rfl
  have e4 : r = r0 := by rw [← e2, e3, e1]
  rw [a2, e4]
theorem mo_val {σ : St} (I : INV σ) {k w : Int32} (hok : (0 ≤ k ∧ k < sI σ 2 5) ∧ (0 ≤ w ∧ w ≤ 7)) : ∃ r, f11_millOf σ 1 k w = some (r, σ) := by
  have L0 := I.lay
  obtain ⟨n0, e0, p0, q0, o0, v0, s0, tx0, -, -, -, M0, -⟩ := I
  obtain ⟨m, hm, rfl⟩ := has_n L0 M0 hok.1
  exact ⟨_, millOf_v L0 M0 hm hok.2⟩
theorem mo_no {σ : St} (I : INV σ) {k w : Int32} (hno : ¬ ((0 ≤ k ∧ k < sI σ 2 5) ∧ (0 ≤ w ∧ w ≤ 7))) : (∃ r, f8_has σ 2 k = some (r, σ) ∧ (r = 0 ∨ w < 0 ∨ ¬ w ≤ 7)) ∧ f12_millOf σ 101 k w = some (0, wI (wI σ 101 0 0) 101 0 1) ∧ INV (wI (wI σ 101 0 0) 101 0 1) := by
  have L0 := I.lay
  have IN : INV (wI (wI σ 101 0 0) 101 0 1) := INV_mo I (Fr_wI (Fr_wI Fr_rf (Or.inl (Or.inl ⟨rfl, rfl⟩))) (Or.inl (Or.inl ⟨rfl, rfl⟩)))
  obtain ⟨n0, e0, p0, q0, o0, v0, s0, tx0, -, -, -, M0, -⟩ := I
  refine ⟨⟨_, has_s L0, ?_⟩, ?_, IN⟩
  · by_cases h1 : 0 ≤ k ∧ k < sI σ 2 5
    · refine Or.inr ?_
      by_cases h2 : w < 0
      · exact Or.inl h2
      · exact Or.inr (fun h3 => hno ⟨h1, Int32.not_lt.mp h2, h3⟩)
    · exact Or.inl (if_neg h1)
  · refine millOf_n L0 M0.ri.1 ?_
    rw [← M0.sz]
    exact hno
