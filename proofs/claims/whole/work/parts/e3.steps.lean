/-! THE CLASS'S LEAST NUMBER of steps -/
def shR (v : Nat) : Prop := v / 12 = 0 ∨ v / 12 = 5
def srF (δ : St) (n : Nat) (f : Nat → Int32) (h : Int32) (m v : Nat) : Prop := f m = nI v ∨ f m = -1 ∧ okF δ n f h m v ∧ shR v
def b0F (f : Nat → Int32) (m : Nat) : Nat := if f m = -1 then 1 else 0
def tgF (tv : Int32) (v : Nat) : Prop := tv = nI v ∨ tv = -1 ∧ shR v
def e0F (tv : Int32) : Nat := if tv = -1 then 1 else 0
theorem b0F_le {f : Nat → Int32} {m : Nat} : b0F f m ≤ 1 := by
  unfold b0F
  by_cases c : f m = -1
  · rw [if_pos c]; exact Nat.le_refl _
  · rw [if_neg c]; omega
/-- the four round a berth -/
theorem adj_4 {u v w1 w2 w3 w4 : Nat} (hv : v < 72) (a : adj u v) (h1 : w1 = 12 * (u / 12 - 1) + u % 12) (h2 : w2 = 12 * (u / 12 + 1) + u % 12) (h3 : w3 = 12 * (u / 12) + (u % 12 - 1)) (h4 : w4 = 12 * (u / 12) + (u % 12 + 1)) : v = w1 ∧ 0 < u / 12 ∨ v = w2 ∧ u / 12 + 1 < 6 ∨ v = w3 ∧ 0 < u % 12 ∨ v = w4 ∧ u % 12 + 1 < 12 := by
  unfold adj at a
  omega
theorem far_hd {b0 : Nat} {st ok : Nat → Prop} {far : Nat → Int32} {Q dd : Nat → Nat} {q i : Nat} (B : BB b0 st ok far Q dd q i) (hi : i < q) : Q i < 72 ∧ far (Q i) = nI (b0 + dd i) ∧ b0 + dd i < b0 + 72 := by
  have h1 := B.1.2.1 i hi
  have h2 := B.1.1.1
  have h3 := h1.2.2.2
  exact ⟨h1.1, h1.2.1, by omega⟩
theorem round_c (K : St → Nat → Int32 → Int32 → Int32 → Option (Int32 × St)) (tv : Int32) {δ σ : St} {n m q i b0 : Nat} {st : Nat → Prop} {h : Int32} {f far : Nat → Int32} {Q dd : Nat → Nat} (C : CA δ n h f σ) (S : CS far Q q σ) (B : BB b0 st (okF δ n f h m) far Q dd q i) (hb : b0 ≤ 1) (hi : i < q) (hm : m < 6) :
    ∃ σ' far' Q' dd' q', f5_fewestSteps_p96 K σ 94 (nI m) tv (nI i) (nI (Q i)) (nI (Q i / 12)) (nI (Q i % 12)) = K σ' 94 (nI m) tv (nI (i + 1)) ∧ Fr Wbf σ σ' ∧ CA δ n h f σ' ∧ CS far' Q' q' σ' ∧ BB b0 st (okF δ n f h m) far' Q' dd' q' (i + 1) ∧ EX far Q dd q far' Q' dd' q' := by
  have L := C.1
  obtain ⟨u72, fu, -⟩ := far_hd B hi
  obtain ⟨u, hu⟩ : ∃ u, Q i = u := ⟨_, rfl⟩
  rw [hu] at u72 fu
  -- lane before
  obtain ⟨σ1, f1, Q1, d1, q1, a1, a2, a3, a4, a5, a6, a7⟩ := reach_n (lI := nI (u / 12) - 1) (sI' := nI (u % 12)) (if u / 12 = 0 then 72 else 12 * (u / 12 - 1) + u % 12) C S B hb hi hm (by
    rw [hu]
    by_cases c : u / 12 = 0
    · refine Or.inr ⟨Or.inl (by rw [c]; decide), fun w => ?_⟩
      rw [if_pos c] at w
      exact absurd w.1 (by omega)
    · refine Or.inl ⟨u / 12 - 1, u % 12, by omega, by omega, ?_, rfl, by rw [if_neg c], by rw [if_neg c]; unfold adj; omega⟩
      have := nI_pred (u / 12 - 1)
      rw [show u / 12 - 1 + 1 = u / 12 by omega] at this
      exact this)
  have i1 : i < q1 := Nat.lt_of_lt_of_le hi a6.1
  have e1 := a6.2.1 i hi
  -- lane behind
  obtain ⟨σ2, f2, Q2, d2, q2, b1, b2, b3, b4, b5, b6, b7⟩ := reach_n (lI := nI (u / 12) + 1) (sI' := nI (u % 12)) (12 * (u / 12 + 1) + u % 12) a3 a4 a5 hb i1 hm (by
    rw [e1.1, hu, nI_1]
    by_cases c : u / 12 = 5
    · exact Or.inr ⟨Or.inr (Or.inl (by rw [c]; decide)), fun w => absurd w.1 (by omega)⟩
    · exact Or.inl ⟨u / 12 + 1, u % 12, by omega, by omega, rfl, rfl, rfl, by unfold adj; omega⟩)
  have i2 : i < q2 := Nat.lt_of_lt_of_le i1 b6.1
  have e2 := b6.2.1 i i1
  -- stretch before
  obtain ⟨σ3, f3, Q3, d3, q3, c1, c2, c3, c4, c5, c6, c7⟩ := reach_n (lI := nI (u / 12)) (sI' := nI (u % 12) - 1) (if u % 12 = 0 then 72 else 12 * (u / 12) + (u % 12 - 1)) b3 b4 b5 hb i2 hm (by
    rw [e2.1, e1.1, hu]
    by_cases c : u % 12 = 0
    · refine Or.inr ⟨Or.inr (Or.inr (Or.inl (by rw [c]; decide))), fun w => ?_⟩
      rw [if_pos c] at w
      exact absurd w.1 (by omega)
    · refine Or.inl ⟨u / 12, u % 12 - 1, by omega, by omega, rfl, ?_, by rw [if_neg c], by rw [if_neg c]; unfold adj; omega⟩
      have := nI_pred (u % 12 - 1)
      rw [show u % 12 - 1 + 1 = u % 12 by omega] at this
      exact this)
  have i3 : i < q3 := Nat.lt_of_lt_of_le i2 c6.1
  have e3 := c6.2.1 i i2
  -- stretch behind
  obtain ⟨σ4, f4, Q4, d4, q4, g1, g2, g3, g4, g5, g6, g7⟩ := reach_n (lI := nI (u / 12)) (sI' := nI (u % 12) + 1) (if u % 12 = 11 then 72 else 12 * (u / 12) + (u % 12 + 1)) c3 c4 c5 hb i3 hm (by
    rw [e3.1, e2.1, e1.1, hu, nI_1]
    by_cases c : u % 12 = 11
    · refine Or.inr ⟨Or.inr (Or.inr (Or.inr (by rw [c]; decide))), fun w => ?_⟩
      rw [if_pos c] at w
      exact absurd w.1 (by omega)
    · exact Or.inl ⟨u / 12, u % 12 + 1, by omega, by omega, rfl, rfl, by rw [if_neg c], by rw [if_neg c]; unfold adj; omega⟩)
  have i4 : i < q4 := Nat.lt_of_lt_of_le i3 g6.1
  have e4 := g6.2.1 i i3
  rw [e1.2] at b1
  rw [e2.2, e1.2] at c1
  rw [e3.2, e2.2, e1.2] at g1
  have x12 := EX_tr a6 b6
  have x34 := EX_tr c6 g6
  refine ⟨σ4, f4, Q4, d4, q4, ?_, Fr_tr (Fr_tr a2 b2) (Fr_tr c2 g2), g3, g4, BB_next g5 i4 (fun v hv a k => ?_), EX_tr x12 x34⟩
  · unfold f5_fewestSteps_p96
    rw [hu, gd_t (oL94 L), lt_b, rL94_5 L, gd_t nz_s, gd_t (oL98 L), gd_t (inb_n (lL98 L) u72 (by decide)), ix_n (by omega), S.1 u u72, fu, nI_1, lt_b, show b0 + dd i + 1 = b0 + (dd i + 1) by omega, bd_s a1, bd_s b1, bd_s c1, bd_s g1, lt_b, nI_1]
  · rw [e4.1, e3.1, e2.1, e1.1, hu] at a
    rcases adj_4 hv a rfl rfl rfl rfl with w | w | w | w
    · have p : (if u / 12 = 0 then 72 else 12 * (u / 12 - 1) + u % 12) = v := by rw [if_neg (by omega)]; exact w.1.symm
      rw [p, hu] at a7
      exact x34.2.2 v hv (b6.2.2 v hv (a7 hv a k))
    · have p : 12 * (u / 12 + 1) + u % 12 = v := w.1.symm
      rw [p, e1.1, hu] at b7
      exact x34.2.2 v hv (b7 hv a k)
    · have p : (if u % 12 = 0 then 72 else 12 * (u / 12) + (u % 12 - 1)) = v := by rw [if_neg (by omega)]; exact w.1.symm
      rw [p, e2.1, e1.1, hu] at c7
      exact g6.2.2 v hv (c7 hv a k)
    · have p : (if u % 12 = 11 then 72 else 12 * (u / 12) + (u % 12 + 1)) = v := by rw [if_neg (by omega)]; exact w.1.symm
      rw [p, e3.1, e2.1, e1.1, hu] at g7
      exact g7 hv a k
theorem fewC_l {δ : St} {n m b0 : Nat} {st : Nat → Prop} {h tv : Int32} {f : Nat → Int32} (hb : b0 ≤ 1) (hm : m < 6) : ∀ (j i fuel : Nat) (σ : St) (far : Nat → Int32) (Q dd : Nat → Nat) (q : Nat), i + j = 72 → j < fuel → CA δ n h f σ → CS far Q q σ → BB b0 st (okF δ n f h m) far Q dd q i → (∀ k, k < i → ¬ tgF tv (Q k)) →
    ∃ r σ', f5_fewestSteps_p20 fuel σ 94 (nI m) tv (nI i) = some (r, σ') ∧ Fr Wbf σ σ' ∧ CA δ n h f σ' ∧ RES (b0 + e0F tv) st (okF δ n f h m) (tgF tv) r := by
  intro j
  induction j with
  | zero =>
    intro i fuel σ far Q dd q hij hf C S B no
    obtain ⟨g, rfl, -⟩ := suc_of hf
    have := B.1.1
    have e : i = q := by omega
    subst e
    refine ⟨-1, σ, ?_, Fr_rf, C, RES_end B no⟩
    rw [f5_fewestSteps_p20, gd_t (oL94 C.1), S.2.2, if_neg (nI_nlt (by omega) (by omega))]
  | succ j ih =>
    intro i fuel σ far Q dd q hij hf C S B no
    obtain ⟨g, rfl, -⟩ := suc_of hf
    have L := C.1
    by_cases hi : i < q
    · obtain ⟨u72, fu, -⟩ := far_hd B hi
      have head : f5_fewestSteps_p20 (g + 1) σ 94 (nI m) tv (nI i) = if nI (Q i) = tv then some (far (Q i), σ) else if tv = -1 then (if nI (Q i / 12) = 0 then f5_fewestSteps_p86 σ 94 (nI (Q i)) else if nI (Q i / 12) = 5 then f5_fewestSteps_p86 σ 94 (nI (Q i)) else f5_fewestSteps_p96 (f5_fewestSteps_p20 g) σ 94 (nI m) tv (nI i) (nI (Q i)) (nI (Q i / 12)) (nI (Q i % 12))) else f5_fewestSteps_p96 (f5_fewestSteps_p20 g) σ 94 (nI m) tv (nI i) (nI (Q i)) (nI (Q i / 12)) (nI (Q i % 12)) := by
        rw [f5_fewestSteps_p20, gd_t (oL94 L), S.2.2, if_pos (nI_lt hi (by have := B.1.1; omega)), if_pos (show nI i < 72 from nI_lt (b := 72) (by omega) (by decide)), lt_b, rL94_6 L, gd_t nz_s, gd_t (oL99 L), gd_t (inb_n (lL99 L) (by omega) (by decide)), ix_n (by omega), S.2.1 i hi, lt_b, bd_s laneOf_s, bd_s stretchOf_s, n_mod12 (by omega), n_div12 (by omega), lt_b, rL94_5 L, gd_t nz_s, gd_t (oL98 L), gd_t (inb_n (lL98 L) u72 (by decide)), ix_n (by omega), S.1 _ u72]
      have p86 : f5_fewestSteps_p86 σ 94 (nI (Q i)) = some (far (Q i) + nI 1, σ) := by
        unfold f5_fewestSteps_p86
        rw [gd_t (oL94 L), lt_b, rL94_5 L, gd_t nz_s, gd_t (oL98 L), gd_t (inb_n (lL98 L) u72 (by decide)), ix_n (by omega), S.1 _ u72]
        rfl
      have go : ¬ tgF tv (Q i) → ∃ r σ', f5_fewestSteps_p96 (f5_fewestSteps_p20 g) σ 94 (nI m) tv (nI i) (nI (Q i)) (nI (Q i / 12)) (nI (Q i % 12)) = some (r, σ') ∧ Fr Wbf σ σ' ∧ CA δ n h f σ' ∧ RES (b0 + e0F tv) st (okF δ n f h m) (tgF tv) r := fun nt => by
        obtain ⟨σ1, far', Q', dd', q', a1, a2, a3, a4, a5, a6⟩ := round_c (f5_fewestSteps_p20 g) tv C S B hb hi hm
        obtain ⟨r, σ', c1, c2, c3, c4⟩ := ih (i + 1) g σ1 far' Q' dd' q' (by omega) (by omega) a3 a4 a5 (fun k hk => by
          rw [(a6.2.1 k (by omega)).1]
          by_cases e : k = i
          · rw [e]; exact nt
          · exact no k (by omega))
        exact ⟨r, σ', by rw [a1]; exact c1, Fr_tr a2 c2, c3, c4⟩
      rw [head]
      by_cases c1 : nI (Q i) = tv
      · have tn : tv ≠ -1 := by rw [← c1]; exact nI_nm (by omega)
        rw [if_pos c1]
        have := RES_at (e := 0) B hi no (Or.inl c1.symm : tgF tv (Q i))
        refine ⟨_, σ, rfl, Fr_rf, C, ?_⟩
        have e0 : e0F tv = 0 := if_neg tn
        rw [e0]
        rw [show far (Q i) + nI 0 = far (Q i) from Int32.add_zero _] at this
        exact this
      · rw [if_neg c1]
        by_cases c2 : tv = -1
        · have e0 : e0F tv = 1 := if_pos c2
          rw [if_pos c2, p86]
          by_cases c3 : nI (Q i / 12) = 0
          · have c3' : Q i / 12 = 0 := (nI_eq (b := 0) (by omega) (by omega)).mp c3
            rw [if_pos c3, e0]
            exact ⟨_, σ, rfl, Fr_rf, C, RES_at (e := 1) B hi no (Or.inr ⟨c2, Or.inl c3'⟩)⟩
          · rw [if_neg c3]
            by_cases c4 : nI (Q i / 12) = 5
            · have c4' : Q i / 12 = 5 := (nI_eq (b := 5) (by omega) (by omega)).mp c4
              rw [if_pos c4, e0]
              exact ⟨_, σ, rfl, Fr_rf, C, RES_at (e := 1) B hi no (Or.inr ⟨c2, Or.inr c4'⟩)⟩
            · rw [if_neg c4]
              exact go (fun w => by
                rcases w with w | ⟨-, w | w⟩
                · exact c1 w.symm
                · exact c3 (by rw [w]; rfl)
                · exact c4 (by rw [w]; rfl))
        · rw [if_neg c2]
          exact go (fun w => by
            rcases w with w | ⟨w, -⟩
            · exact c1 w.symm
            · exact c2 w)
    · have := B.1.1
      have e : i = q := by omega
      subst e
      refine ⟨-1, σ, ?_, Fr_rf, C, RES_end B no⟩
      rw [f5_fewestSteps_p20, gd_t (oL94 L), S.2.2, if_neg (nI_nlt (by omega) (by omega))]
/-- from no berth: the shores -/
theorem begC_l {δ : St} {n m : Nat} {h : Int32} {f : Nat → Int32} (fm : f m = -1) (hm : m < 6) : ∀ (j s fuel : Nat) (σ : St) (far : Nat → Int32) (Q dd : Nat → Nat) (q : Nat), s + j = 12 → j < fuel → CA δ n h f σ → CS far Q q σ → BJ 1 (srF δ n f h m) (okF δ n f h m) far Q dd q 0 → (∀ k, dd k = 0) → (∀ v, v < 72 → srF δ n f h m v → v % 12 < s → far v ≠ -1) →
    ∃ σ' far' Q' dd' q', f5_begin_p44 fuel σ 94 (nI m) (nI s) = some ((), σ') ∧ Fr Wbf σ σ' ∧ CA δ n h f σ' ∧ CS far' Q' q' σ' ∧ BB 1 (srF δ n f h m) (okF δ n f h m) far' Q' dd' q' 0 := by
  intro j
  induction j with
  | zero =>
    intro s fuel σ far Q dd q hs hf C S B z al
    obtain ⟨g, rfl, -⟩ := suc_of hf
    refine ⟨σ, far, Q, dd, q, ?_, Fr_rf, C, S, B, fun v hv h => al v hv h (by omega)⟩
    have e : s = 12 := by omega
    rw [f5_begin_p44, e, if_neg (by decide)]
  | succ j ih =>
    intro s fuel σ far Q dd q hs hf C S B z al
    obtain ⟨g, rfl, -⟩ := suc_of hf
    have one : ∀ (l : Nat) (σ : St) (far : Nat → Int32) (Q dd : Nat → Nat) (q : Nat), (l = 0 ∨ l = 5) → CA δ n h f σ → CS far Q q σ → BJ 1 (srF δ n f h m) (okF δ n f h m) far Q dd q 0 → (∀ k, dd k = 0) →
        ∃ σ' far' Q' dd' q', f5_reach σ 94 (nI m) (nI l) (nI s) 1 = some ((), σ') ∧ Fr Wbf σ σ' ∧ CA δ n h f σ' ∧ CS far' Q' q' σ' ∧ BJ 1 (srF δ n f h m) (okF δ n f h m) far' Q' dd' q' 0 ∧ (∀ k, dd' k = 0) ∧ (∀ v, v < 72 → far v ≠ -1 → far' v ≠ -1) ∧ (okF δ n f h m (12 * l + s) → far' (12 * l + s) ≠ -1) := fun l σ far Q dd q hl C S B z => by
      have w72 : 12 * l + s < 72 := by omega
      obtain ⟨σ', a1, a2, a3, a4, a5⟩ := reach_w (l := l) (s := s) (w := 12 * l + s) C S (by omega) (by omega) rfl hm (fun v => room_q B w72 v) 1
      have a1' : f5_reach σ 94 (nI m) (nI l) (nI s) 1 = some ((), σ') := a1
      by_cases c : far (12 * l + s) = -1 ∧ okF δ n f h m (12 * l + s)
      · obtain ⟨x1, x2⟩ := BJ_st B z (by omega) w72 c.1 (Or.inr ⟨fm, c.2, by unfold shR; omega⟩)
        exact ⟨σ', _, _, _, _, a1', a2, a3, a4 c, x1, x2, (EX_put (Q := Q) (dd := dd) (q := q) (x := 0) (by omega)).2.2, fun _ => by
          unfold ud
          rw [if_pos rfl]
          exact nI_nm (by omega)⟩
      · exact ⟨σ', far, Q, dd, q, a1', a2, a3, a5 c, B, z, fun _ _ h => h, fun k v => c ⟨v, k⟩⟩
    obtain ⟨σ1, f1, Q1, d1, q1, a1, a2, a3, a4, a5, a6, a7, a8⟩ := one 0 σ far Q dd q (Or.inl rfl) C S B z
    obtain ⟨σ2, f2, Q2, d2, q2, b1, b2, b3, b4, b5, b6, b7, b8⟩ := one 5 σ1 f1 Q1 d1 q1 (Or.inr rfl) a3 a4 a5 a6
    obtain ⟨σ', f3, Q3, d3, q3, c1, c2, c3, c4, c5⟩ := ih (s + 1) g σ2 f2 Q2 d2 q2 (by omega) (by omega) b3 b4 b5 b6 (fun v hv st lt => by
      by_cases c : v % 12 < s
      · exact b7 v hv (a7 v hv (al v hv st c))
      · rcases st with w | ⟨-, w, sh⟩
        · rw [fm] at w
          exact absurd w.symm (nI_nm (by omega))
        · unfold shR at sh
          by_cases c0 : v / 12 = 0
          · have e : v = 12 * 0 + s := by omega
            rw [e] at w ⊢
            exact b7 _ (by omega) (a8 w)
          · have e : v = 12 * 5 + s := by omega
            rw [e] at w ⊢
            exact b8 w)
    refine ⟨σ', f3, Q3, d3, q3, ?_, Fr_tr (Fr_tr a2 b2) c2, c3, c4, c5⟩
    have a1' : f5_reach σ 94 (nI m) 0 (nI s) 1 = some ((), σ1) := a1
    have b1' : f5_reach σ1 94 (nI m) 5 (nI s) 1 = some ((), σ2) := b1
    rw [f5_begin_p44, if_pos (show nI s < 12 from nI_lt (b := 12) (by omega) (by decide)), gd_t (oL94 C.1), bd_s a1', bd_s b1', lt_b, nI_1]
    exact c1
theorem few_s {δ σ : St} {n m : Nat} {h tv : Int32} {f : Nat → Int32} (C : CA δ n h f σ) (hm : m < n) (fm : f m = -1 ∨ ∃ s, s < 72 ∧ f m = nI s) :
    ∃ r σ', f5_fewestSteps σ 94 (nI m) tv = some (r, σ') ∧ Fr Wbf σ σ' ∧ CA δ n h f σ' ∧ RES (b0F f m + e0F tv) (srF δ n f h m) (okF δ n f h m) (tgF tv) r := by
  have L := C.1
  have n6 := C.2.2.2.1
  have hN := L.2.2
  obtain ⟨σ1, a1, a2, a3⟩ := fill_s (σ := σ) (a := 98) (-1) (oL98 L) (lL98 L) (by decide)
  have F1 : Fr Wbf σ σ1 := Fr_mo a2 (fun x k w => Or.inl w)
  have F2 : Fr Wbf σ (wI σ1 94 7 0) := Fr_wI F1 (Or.inl (by unfold Wbf; omega))
  have C1 : CA δ n h f (wI σ1 94 7 0) := CA_Fr F2 (fun a k v u => by unfold Wbf at u; omega) C
  have L1 := C1.1
  have far0 : ∀ v, v < 72 → sI (wI σ1 94 7 0) 98 v = -1 := fun v hv => by rw [sI_wo (by decide)]; exact a3 v hv
  have B0 : ∀ b st ok, BJ b st ok (fun v => sI (wI σ1 94 7 0) 98 v) (fun _ => 0) (fun _ => 0) 0 0 := fun b st ok => BJ_0 far0
  have S0 : CS (fun v => sI (wI σ1 94 7 0) 98 v) (fun _ => 0) 0 (wI σ1 94 7 0) := ⟨fun _ _ => rfl, fun j hj => absurd hj (by omega), by rw [sI_w1]; rfl⟩
  have l97 : sI (wI σ1 94 7 0) 97 m = f m := C1.2.2.2.2.2 m hm
  have main : ∃ σ2 far Q dd q, f5_begin (wI σ1 94 7 0) 94 (nI m) = some ((), σ2) ∧ Fr Wbf (wI σ1 94 7 0) σ2 ∧ CA δ n h f σ2 ∧ CS far Q q σ2 ∧ BB (b0F f m) (srF δ n f h m) (okF δ n f h m) far Q dd q 0 := by
    rcases fm with e | ⟨s, hs, e⟩
    · have b1 : b0F f m = 1 := if_pos e
      rw [b1]
      obtain ⟨σ', f3, Q3, d3, q3, c1, c2, c3, c4, c5⟩ := begC_l e (show m < 6 by omega) 12 0 FU _ _ _ _ _ (by omega) (by unfold FU; omega) C1 S0 (B0 _ _ _) (fun _ => rfl) (fun v _ _ lt => absurd lt (by omega))
      refine ⟨σ', f3, Q3, d3, q3, ?_, c2, c3, c4, c5⟩
      unfold f5_begin
      rw [gd_t (oL94 L1), lt_b, rL94_4 L1, gd_t nz_s, gd_t (oL97 L1), gd_t (inb_n (lL97 L1) (by omega) (by decide)), ix_n (by omega), l97, e, bd_s isBerth_s, ite_B, if_neg (by decide)]
      exact c1
    · have ne : f m ≠ -1 := by rw [e]; exact nI_nm (by omega)
      have b1 : b0F f m = 0 := if_neg ne
      rw [b1]
      have M1 : Lay (wI (wI σ1 94 7 0) 98 s 0) := Lay_wI L1
      have F3 : Fr Wbf (wI σ1 94 7 0) (wI (wI (wI (wI σ1 94 7 0) 98 s 0) 99 0 (nI s)) 94 7 1) := by
        refine Fr_wI (Fr_wI (Fr_wI Fr_rf ?_) ?_) ?_ <;> exact Or.inl (by unfold Wbf; omega)
      obtain ⟨x1, x2⟩ := BJ_st (B0 0 (srF δ n f h m) (okF δ n f h m)) (fun _ => rfl) (by omega) hs (far0 s hs) (Or.inl e)
      refine ⟨_, _, _, _, _, ?_, F3, CA_Fr F3 (fun a k v u => by unfold Wbf at u; omega) C1, ⟨fun v hv => ?_, fun j hj => ?_, by rw [sI_w1]; rfl⟩, x1, fun v hv st => ?_⟩
      · unfold f5_begin
        rw [gd_t (oL94 L1), lt_b, rL94_4 L1, gd_t nz_s, gd_t (oL97 L1), gd_t (inb_n (lL97 L1) (by omega) (by decide)), ix_n (by omega), l97, e, bd_s isBerth_s, ite_B, if_pos ⟨nI_pos' (by omega), nI_lt (b := 72) hs (by decide)⟩, lt_b, rL94_5 L1, gd_t nz_s, lt_b, rL94_4 L1, gd_t nz_s, gd_t (oL97 L1), gd_t (inb_n (lL97 L1) (by omega) (by decide)), gd_t (oL98 L1), l97, e, gd_t (inb_n (lL98 L1) hs (by decide)), ix_n (by omega), lt_b, lt_b, rL94_6 M1, gd_t nz_s, gd_t (oL99 M1), gd_t (inb_k0 (lL99 M1) (by decide) (by decide)), sI_wo (by decide), l97, e, lt_b, lt_b]
        rfl
      · rw [sI_wo (by decide), sI_wo (by decide)]
        unfold ud
        by_cases c : v = s
        · rw [if_pos c, c, sI_w1]; rfl
        · rw [if_neg c, sI_wk c]
      · rw [sI_wo (by decide)]
        have j0 : j = 0 := by omega
        rw [j0, sI_w1]
        rfl
      · rcases st with w | ⟨w, -⟩
        · rw [e] at w
          have := (nI_eq (by omega) (by omega)).mp w
          unfold ud
          rw [if_pos this.symm]
          exact nI_nm (by omega)
        · exact absurd w ne
  obtain ⟨σ2, far, Q, dd, q, c1, c2, c3, c4, c5⟩ := main
  obtain ⟨r, σ', g1, g2, g3, g4⟩ := fewC_l (tv := tv) b0F_le (show m < 6 by omega) 72 0 FU σ2 far Q dd q (by omega) (by unfold FU; omega) c3 c4 c5 (fun k hk => absurd hk (by omega))
  refine ⟨r, σ', ?_, Fr_tr F2 (Fr_tr c2 g2), g3, g4⟩
  unfold f5_fewestSteps
  rw [gd_t (oL94 L), lt_b, rL94_5 L, gd_t nz_s, bd_s a1, lt_b, bd_s c1]
  exact g1
