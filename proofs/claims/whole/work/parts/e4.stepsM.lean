/-! THE REFERENCE'S LEAST NUMBER of steps -/
def Wbm (x _ : Nat) : Prop := x = 151 ∨ x = 152
def CR (δ : St) (n : Nat) (f : Nat → Int32) (ρ : St) : Prop := RiV δ ρ n ∧ ∀ k, k < n → sI ρ 109 k = f k
def Mfq (far : Nat → Int32) (Q : Nat → Nat) (q : Nat) (ρ : St) : Prop := (∀ v, v < 72 → sI ρ 151 v = far v) ∧ ∀ j, j < q → sI ρ 152 j = nI (Q j)
theorem CR_Fr {W : Nat → Nat → Prop} {δ ρ ρ' : St} {n : Nat} {f : Nat → Int32} (F : Fr W ρ ρ') (hw : ∀ x k, 102 ≤ x ∧ x ≤ 113 ∨ x = 101 ∧ k = 5 → ¬ W x k) (c : CR δ n f ρ) : CR δ n f ρ' := by
  have hN := c.1.1.2.2
  exact ⟨RiV_Fr F (fun a k w => hw a k (by omega)) c.1, fun k hk => by rw [Fr_i F (by omega) (hw _ _ (by omega))]; exact c.2 k hk⟩
theorem isFree_s {δ ρ : St} {n m w : Nat} {h : Int32} {f : Nat → Int32} (C : CR δ n f ρ) (hh : Hh h) (hm : m < n) (hw : w < 72) (ne : f m ≠ nI w) : f12_isFree ρ 101 (nI m) (nI w) h = some (if okF δ n f h m w then 1 else 0, ρ) := by
  have M := C.1.1
  have n6 := C.1.2.2.2.2.2.2.1
  have p19 : f12_isFree_p19 ρ 101 (nI m) (nI w) h = some (if dpF (sI δ 3 w) h < sI δ (29 + m) 0 then 0 else 1, ρ) := by
    unfold f12_isFree_p19
    rw [gd_t (oL101 M), bd_s (depthM_d M C.1.2.2.2.1 C.1.2.2.2.2.1 hw hh), lt_b, rL101_6 M, gd_t nz_s, gd_t (oL106 M), gd_t (inb_n (lL106 M) (by omega) (by decide)), ix_n (by omega), (C.1.2.2.2.2.2.2.2 m hm).1]
    by_cases c : dpF (sI δ 3 w) h < sI δ (29 + m) 0
    · rw [if_pos c, if_pos c]
    · rw [if_neg c, if_neg c]
  unfold f12_isFree
  rw [gd_t (oL101 M), bd_s (millAt_s M C.1.2.2.2.2.2.1 n6), lyF_eq C.2, p19]
  unfold okF
  by_cases c : lyF f (nI w) n 0 = -1
  · rw [if_pos c]
    by_cases d : dpF (sI δ 3 w) h < sI δ (29 + m) 0
    · rw [if_pos d, if_neg (fun v => v.2 d)]
    · rw [if_neg d, if_pos ⟨c, d⟩]
  · have nm : ¬ lyF f (nI w) n 0 = nI m := by
      rcases lyF_sp (f := f) (b := nI w) n 0 with ⟨h1, -⟩ | ⟨k, h1, h2, h3, h4, -⟩
      · exact absurd h1 c
      · intro e
        rw [h3] at e
        have := (nI_eq (by omega) (by omega)).mp e
        rw [this] at h4
        exact ne h4
    rw [if_neg c, if_neg nm, if_neg (fun v => c v.1)]
theorem isShoreM_s {σ : St} {v : Nat} (hv : v < 72) : f12_isShore σ (nI v) = some (if v / 12 = 0 ∨ v / 12 = 5 then 1 else 0, σ) := by
  unfold f12_isShore
  rw [n_div12 (by omega)]
  by_cases c1 : v / 12 = 0
  · rw [c1, if_pos (by rfl), if_pos (Or.inl rfl)]
  · rw [if_neg (show ¬ nI (v / 12) = 0 from fun e => c1 ((nI_eq (b := 0) (by omega) (by omega)).mp e))]
    by_cases c2 : v / 12 = 5
    · rw [c2, if_pos (by rfl), if_pos (Or.inr rfl)]
    · rw [if_neg (show ¬ nI (v / 12) = 5 from fun e => c2 ((nI_eq (b := 5) (by omega) (by omega)).mp e)), if_neg (fun w => by rcases w with w | w; exact c1 w; exact c2 w)]
/-- a berth seen -/
theorem see_m {δ ρ : St} {n w q x : Nat} {f far : Nat → Int32} {Q : Nat → Nat} (C : CR δ n f ρ) (S : Mfq far Q q ρ) : Fr Wbm ρ (wI (wI ρ 151 w (nI x)) 152 q (nI w)) ∧ CR δ n f (wI (wI ρ 151 w (nI x)) 152 q (nI w)) ∧ Mfq (ud far w (nI x)) (un Q q w) (q + 1) (wI (wI ρ 151 w (nI x)) 152 q (nI w)) := by
  have F : Fr Wbm ρ (wI (wI ρ 151 w (nI x)) 152 q (nI w)) := by
    refine Fr_wI (Fr_wI Fr_rf ?_) ?_ <;> exact Or.inl (by unfold Wbm; omega)
  refine ⟨F, CR_Fr F (fun a k v u => by unfold Wbm at u; omega) C, fun v hv => ?_, fun j hj => ?_⟩
  · rw [sI_wo (by decide)]
    unfold ud
    by_cases ev : v = w
    · rw [if_pos ev, ev, sI_w1]
    · rw [if_neg ev, sI_wk ev]; exact S.1 v hv
  · unfold un
    by_cases ej : j = q
    · rw [if_pos ej, ej, sI_w1]
    · rw [if_neg ej, sI_wk ej, sI_wo (by decide)]; exact S.2 j (by omega)
theorem try_m (K130 : St → Nat → Int32 → Int32 → Int32 → Int32 → Int32 → Int32 → Option (Int32 × St)) (K193 : St → Nat → Int32 → Int32 → Int32 → Int32 → Int32 → Int32 → Int32 → Int32 → Option (Int32 × St)) (tv v5 v8 : Int32) {δ ρ : St} {n m q i b0 : Nat} {h : Int32} {f far : Nat → Int32} {Q dd : Nat → Nat} {la x0 x1 : Int32} (w : Nat)
    (C : CR δ n f ρ) (S : Mfq far Q q ρ) (hh : Hh h) (B : BB b0 (srF δ n f h m) (okF δ n f h m) far Q dd q i) (hb : b0 ≤ 1) (hi : i < q) (hm : m < n)
    (h1 : (∃ l s, l < 6 ∧ s < 12 ∧ la = nI l ∧ x1 + x0 = nI s ∧ w = 12 * l + s ∧ adj (Q i) w) ∨ ((la < 0 ∨ ¬ la ≤ 5 ∨ x1 + x0 < 0 ∨ ¬ x1 + x0 ≤ 11) ∧ ¬ (w < 72 ∧ adj (Q i) w))) :
    ∃ ρ' far' Q' dd' q', f12_stepsTo_p253 K130 K193 ρ 101 (nI m) tv h (nI q) v5 (nI i) (nI (Q i)) v8 la x0 x1 = f12_stepsTo_p343 K130 K193 ρ' 101 (nI m) tv h (nI q') v5 (nI i) (nI (Q i)) v8 ∧ Fr Wbm ρ ρ' ∧ CR δ n f ρ' ∧ Mfq far' Q' q' ρ' ∧ BB b0 (srF δ n f h m) (okF δ n f h m) far' Q' dd' q' i ∧ EX far Q dd q far' Q' dd' q' ∧ (w < 72 → adj (Q i) w → okF δ n f h m w → far' w ≠ -1) := by
  have M := C.1.1
  have n6 := C.1.2.2.2.2.2.2.1
  obtain ⟨u72, fu, -⟩ := far_hd B hi
  rcases h1 with ⟨l, s, hl, hs, rfl, e1, ew, a⟩ | ⟨h1, h2⟩
  · have w72 : w < 72 := by omega
    have ey : (12 : Int32) * nI l + nI s = nI w := by
      have : (12 : Int32) * nI l = nI (12 * l) := pk_mul 12 l
      rw [this, nI_add, ew]
    have q1 : b0 + (dd i + 1) < 1000 := by
      have := (B.1.2.1 i hi).2.2.2
      have := B.1.1.1
      omega
    have head : f12_stepsTo_p253 K130 K193 ρ 101 (nI m) tv h (nI q) v5 (nI i) (nI (Q i)) v8 (nI l) x0 x1 = if far w = -1 then (bd (f12_isFree ρ 101 (nI m) (nI w) h) fun r122 t123 => if r122 = 0 then f12_stepsTo_p343 K130 K193 t123 101 (nI m) tv h (nI q) v5 (nI i) (nI (Q i)) v8 else lt (sR t123 101 77) fun b127 => gd (nz b127) (gd (ob t123 b127 14) (gd (inb t123 b127 (nI (Q i))) (gd (inb t123 b127 (nI w)) (lt (wI t123 b127 (ix (nI w)) ((sI t123 b127 (ix (nI (Q i)))) + 1)) fun t133 => lt (sR t133 101 78) fun b135 => gd (nz b135) (gd (ob t133 b135 14) (gd (inb t133 b135 (nI q)) (lt (wI t133 b135 (ix (nI q)) (nI w)) fun t140 => lt (nI q + 1) fun y142 => f12_stepsTo_p343 K130 K193 t140 101 (nI m) tv h y142 v5 (nI i) (nI (Q i)) v8)))))))) else f12_stepsTo_p343 K130 K193 ρ 101 (nI m) tv h (nI q) v5 (nI i) (nI (Q i)) v8 := by
      unfold f12_stepsTo_p253
      rw [e1, lt_b, bd_s within_s, if_pos (show 0 ≤ nI l ∧ nI l ≤ 5 from ⟨nI_pos' (by omega), nI_le (b := 5) (by omega) (by decide)⟩), if_neg (by decide), bd_s within_s, if_pos (show 0 ≤ nI s ∧ nI s ≤ 11 from ⟨nI_pos' (by omega), nI_le (b := 11) (by omega) (by decide)⟩), if_neg (by decide), ey, lt_b, gd_t (oL101 M), lt_b, rL101_77 M, gd_t nz_s, gd_t (oL151 M), gd_t (inb_n (lL151 M) w72 (by decide)), ix_n (by omega), S.1 w w72]
    rw [head]
    by_cases c1 : far w = -1
    · have ne : f m ≠ nI w := fun e => B.2 w w72 (Or.inl e) c1
      have q72 := room_q B.1 w72 c1
      rw [if_pos c1, bd_s (isFree_s C hh hm w72 ne)]
      by_cases c2 : okF δ n f h m w
      · obtain ⟨g1, g2, g3⟩ := see_m (w := w) (x := b0 + (dd i + 1)) C S
        have M1 : Lay (wI ρ 151 w (nI (b0 + (dd i + 1)))) := Lay_wI M
        refine ⟨_, _, _, _, _, ?_, g1, g2, g3, BB_new B hb hi w72 c1 c2 a, EX_put q1, fun _ _ _ => ?_⟩
        · rw [if_pos c2, if_neg (by decide), lt_b, rL101_77 M, gd_t nz_s, gd_t (oL151 M), gd_t (inb_n (lL151 M) u72 (by decide)), gd_t (inb_n (lL151 M) w72 (by decide)), ix_n (by omega), ix_n (by omega), S.1 _ u72, fu, nI_1, show b0 + dd i + 1 = b0 + (dd i + 1) by omega, lt_b, lt_b, rL101_78 M1, gd_t nz_s, gd_t (oL152 M1), gd_t (inb_n (lL152 M1) q72 (by decide)), ix_n (by omega), lt_b, nI_1, lt_b]
        · unfold ud
          rw [if_pos rfl]
          exact nI_nm q1
      · rw [if_neg c2, if_pos rfl]
        exact ⟨ρ, far, Q, dd, q, rfl, Fr_rf, C, S, B, EX_rf, fun _ _ k => absurd k c2⟩
    · rw [if_neg c1]
      exact ⟨ρ, far, Q, dd, q, rfl, Fr_rf, C, S, B, EX_rf, fun _ _ _ => c1⟩
  · refine ⟨ρ, far, Q, dd, q, ?_, Fr_rf, C, S, B, EX_rf, fun v a => absurd ⟨v, a⟩ h2⟩
    unfold f12_stepsTo_p253
    rw [lt_b, bd_s within_s]
    by_cases c1 : 0 ≤ la ∧ la ≤ 5
    · have nn : ¬ (0 ≤ x1 + x0 ∧ x1 + x0 ≤ 11) := fun v => by
        rcases h1 with h | h | h | h
        · exact Int32.not_lt.mpr c1.1 h
        · exact h c1.2
        · exact Int32.not_lt.mpr v.1 h
        · exact h v.2
      rw [if_pos c1, if_neg (by decide), bd_s within_s, if_neg nn, if_pos rfl]
    · rw [if_neg c1, if_pos rfl]
theorem add_m1 {l : Nat} (h : 0 < l) : nI l + (-1) = nI (l - 1) := by
  have := nI_pred (l - 1)
  rw [show l - 1 + 1 = l by omega] at this
  rw [← this, Int32.sub_eq_add_neg]
theorem p193_0 (K : St → Nat → Int32 → Int32 → Int32 → Int32 → Int32 → Int32 → Option (Int32 × St)) (g : Nat) (σ : St) (m tv h q v5 i u : Int32) : f12_stepsTo_p193 K (g + 1) σ 101 m tv h q v5 i u 0 = f12_stepsTo_p253 K (f12_stepsTo_p193 K g) σ 101 m tv h q v5 i u 0 (u / 12 + 1) 0 (u - u / 12 * 12) := by
  rw [f12_stepsTo_p193, if_pos (by decide), if_pos rfl]
  unfold f12_stepsTo_p224
  rw [lt_b, if_neg (by decide), if_neg (by decide)]
theorem p193_1 (K : St → Nat → Int32 → Int32 → Int32 → Int32 → Int32 → Int32 → Option (Int32 × St)) (g : Nat) (σ : St) (m tv h q v5 i u : Int32) : f12_stepsTo_p193 K (g + 1) σ 101 m tv h q v5 i u 1 = f12_stepsTo_p253 K (f12_stepsTo_p193 K g) σ 101 m tv h q v5 i u 1 (u / 12 + (-1)) 0 (u - u / 12 * 12) := by
  rw [f12_stepsTo_p193, if_pos (by decide), if_neg (by decide), if_pos rfl]
  unfold f12_stepsTo_p224
  rw [lt_b, if_neg (by decide), if_neg (by decide)]
theorem p193_2 (K : St → Nat → Int32 → Int32 → Int32 → Int32 → Int32 → Int32 → Option (Int32 × St)) (g : Nat) (σ : St) (m tv h q v5 i u : Int32) : f12_stepsTo_p193 K (g + 1) σ 101 m tv h q v5 i u 2 = f12_stepsTo_p253 K (f12_stepsTo_p193 K g) σ 101 m tv h q v5 i u 2 (u / 12 + 0) 1 (u - u / 12 * 12) := by
  rw [f12_stepsTo_p193, if_pos (by decide), if_neg (by decide), if_neg (by decide)]
  unfold f12_stepsTo_p224
  rw [lt_b, if_pos rfl]
theorem p193_3 (K : St → Nat → Int32 → Int32 → Int32 → Int32 → Int32 → Int32 → Option (Int32 × St)) (g : Nat) (σ : St) (m tv h q v5 i u : Int32) : f12_stepsTo_p193 K (g + 1) σ 101 m tv h q v5 i u 3 = f12_stepsTo_p253 K (f12_stepsTo_p193 K g) σ 101 m tv h q v5 i u 3 (u / 12 + 0) (-1) (u - u / 12 * 12) := by
  rw [f12_stepsTo_p193, if_pos (by decide), if_neg (by decide), if_neg (by decide)]
  unfold f12_stepsTo_p224
  rw [lt_b, if_neg (by decide), if_pos rfl]
theorem p193_4 (K : St → Nat → Int32 → Int32 → Int32 → Int32 → Int32 → Int32 → Option (Int32 × St)) (g : Nat) (σ : St) (m tv h q v5 u : Int32) (i : Nat) : f12_stepsTo_p193 K (g + 1) σ 101 m tv h q v5 (nI i) u 4 = K σ 101 m tv h q v5 (nI (i + 1)) := by
  rw [f12_stepsTo_p193, if_neg (by decide), lt_b, nI_1]
theorem p343_s (K : St → Nat → Int32 → Int32 → Int32 → Int32 → Int32 → Int32 → Option (Int32 × St)) (K2 : St → Nat → Int32 → Int32 → Int32 → Int32 → Int32 → Int32 → Int32 → Int32 → Option (Int32 × St)) (σ : St) (m tv h q v5 i u v8 v9 : Int32) (e : v8 + 1 = v9) : f12_stepsTo_p343 K K2 σ 101 m tv h q v5 i u v8 = K2 σ 101 m tv h q v5 i u v9 := by
  unfold f12_stepsTo_p343
  rw [lt_b, e]
theorem round_m (K : St → Nat → Int32 → Int32 → Int32 → Int32 → Int32 → Int32 → Option (Int32 × St)) (tv v5 : Int32) {δ ρ : St} {n m q i b0 : Nat} {h : Int32} {f far : Nat → Int32} {Q dd : Nat → Nat}
    (C : CR δ n f ρ) (S : Mfq far Q q ρ) (hh : Hh h) (B : BB b0 (srF δ n f h m) (okF δ n f h m) far Q dd q i) (hb : b0 ≤ 1) (hi : i < q) (hm : m < n) :
    ∃ ρ' far' Q' dd' q', f12_stepsTo_p190 K ρ 101 (nI m) tv h (nI q) v5 (nI i) (nI (Q i)) = K ρ' 101 (nI m) tv h (nI q') v5 (nI (i + 1)) ∧ Fr Wbm ρ ρ' ∧ CR δ n f ρ' ∧ Mfq far' Q' q' ρ' ∧ BB b0 (srF δ n f h m) (okF δ n f h m) far' Q' dd' q' (i + 1) ∧ EX far Q dd q far' Q' dd' q' := by
  obtain ⟨u72, -, -⟩ := far_hd B hi
  obtain ⟨u, hu⟩ : ∃ u, Q i = u := ⟨_, rfl⟩
  rw [hu] at u72
  obtain ⟨g, hg⟩ : ∃ g, FU = g + 1 + 1 + 1 + 1 + 1 := ⟨2995, rfl⟩
  -- lane behind
  obtain ⟨σ1, f1, Q1, d1, q1, a1, a2, a3, a4, a5, a6, a7⟩ := try_m K (f12_stepsTo_p193 K (g + 1 + 1 + 1 + 1)) tv v5 0 (la := nI (u / 12) + 1) (x0 := 0) (x1 := nI (u % 12)) (12 * (u / 12 + 1) + u % 12) C S hh B hb hi hm (by
    rw [hu, nI_1]
    by_cases c : u / 12 = 5
    · exact Or.inr ⟨Or.inr (Or.inl (by rw [c]; decide)), fun w => absurd w.1 (by omega)⟩
    · exact Or.inl ⟨u / 12 + 1, u % 12, by omega, by omega, rfl, Int32.add_zero _, rfl, by unfold adj; omega⟩)
  have i1 : i < q1 := Nat.lt_of_lt_of_le hi a6.1
  have e1 := a6.2.1 i hi
  -- lane before
  obtain ⟨σ2, f2, Q2, d2, q2, b1, b2, b3, b4, b5, b6, b7⟩ := try_m K (f12_stepsTo_p193 K (g + 1 + 1 + 1)) tv v5 1 (la := nI (u / 12) + (-1)) (x0 := 0) (x1 := nI (u % 12)) (if u / 12 = 0 then 72 else 12 * (u / 12 - 1) + u % 12) a3 a4 hh a5 hb i1 hm (by
    rw [e1.1, hu]
    by_cases c : u / 12 = 0
    · refine Or.inr ⟨Or.inl (by rw [c]; decide), fun w => ?_⟩
      rw [if_pos c] at w
      exact absurd w.1 (by omega)
    · exact Or.inl ⟨u / 12 - 1, u % 12, by omega, by omega, add_m1 (by omega), Int32.add_zero _, by rw [if_neg c], by rw [if_neg c]; unfold adj; omega⟩)
  have i2 : i < q2 := Nat.lt_of_lt_of_le i1 b6.1
  have e2 := b6.2.1 i i1
  -- stretch behind
  obtain ⟨σ3, f3, Q3, d3, q3, c1, c2, c3, c4, c5, c6, c7⟩ := try_m K (f12_stepsTo_p193 K (g + 1 + 1)) tv v5 2 (la := nI (u / 12) + 0) (x0 := 1) (x1 := nI (u % 12)) (if u % 12 = 11 then 72 else 12 * (u / 12) + (u % 12 + 1)) b3 b4 hh b5 hb i2 hm (by
    rw [e2.1, e1.1, hu, nI_1]
    by_cases c : u % 12 = 11
    · refine Or.inr ⟨Or.inr (Or.inr (Or.inr (by rw [c]; decide))), fun w => ?_⟩
      rw [if_pos c] at w
      exact absurd w.1 (by omega)
    · exact Or.inl ⟨u / 12, u % 12 + 1, by omega, by omega, Int32.add_zero _, rfl, by rw [if_neg c], by rw [if_neg c]; unfold adj; omega⟩)
  have i3 : i < q3 := Nat.lt_of_lt_of_le i2 c6.1
  have e3 := c6.2.1 i i2
  -- stretch before
  obtain ⟨σ4, f4, Q4, d4, q4, g1, g2, g3, g4, g5, g6, g7⟩ := try_m K (f12_stepsTo_p193 K (g + 1)) tv v5 3 (la := nI (u / 12) + 0) (x0 := -1) (x1 := nI (u % 12)) (if u % 12 = 0 then 72 else 12 * (u / 12) + (u % 12 - 1)) c3 c4 hh c5 hb i3 hm (by
    rw [e3.1, e2.1, e1.1, hu]
    by_cases c : u % 12 = 0
    · refine Or.inr ⟨Or.inr (Or.inr (Or.inl (by rw [c]; decide))), fun w => ?_⟩
      rw [if_pos c] at w
      exact absurd w.1 (by omega)
    · exact Or.inl ⟨u / 12, u % 12 - 1, by omega, by omega, Int32.add_zero _, add_m1 (by omega), by rw [if_neg c], by rw [if_neg c]; unfold adj; omega⟩)
  have i4 : i < q4 := Nat.lt_of_lt_of_le i3 g6.1
  have e4 := g6.2.1 i i3
  have x12 := EX_tr a6 b6
  have x34 := EX_tr c6 g6
  refine ⟨σ4, f4, Q4, d4, q4, ?_, Fr_tr (Fr_tr a2 b2) (Fr_tr c2 g2), g3, g4, BB_next g5 i4 (fun v hv a k => ?_), EX_tr x12 x34⟩
  · unfold f12_stepsTo_p190
    rw [hu] at a1
    rw [e1.1, hu] at b1
    rw [e2.1, e1.1, hu] at c1
    rw [e3.1, e2.1, e1.1, hu] at g1
    rw [hu, hg, p193_0, n_mod12 (by omega), n_div12 (by omega), a1, p343_s (v9 := 1) (e := rfl), p193_1, n_mod12 (by omega), n_div12 (by omega), b1, p343_s (v9 := 2) (e := rfl), p193_2, n_mod12 (by omega), n_div12 (by omega), c1, p343_s (v9 := 3) (e := rfl), p193_3, n_mod12 (by omega), n_div12 (by omega), g1, p343_s (v9 := 4) (e := rfl), p193_4]
  · rw [e4.1, e3.1, e2.1, e1.1, hu] at a
    rcases adj_4 hv a rfl rfl rfl rfl with w | w | w | w
    · have p : (if u / 12 = 0 then 72 else 12 * (u / 12 - 1) + u % 12) = v := by rw [if_neg (by omega)]; exact w.1.symm
      rw [p, e1.1, hu] at b7
      exact x34.2.2 v hv (b7 hv a k)
    · have p : 12 * (u / 12 + 1) + u % 12 = v := w.1.symm
      rw [p, hu] at a7
      exact x34.2.2 v hv (b6.2.2 v hv (a7 hv a k))
    · have p : (if u % 12 = 0 then 72 else 12 * (u / 12) + (u % 12 - 1)) = v := by rw [if_neg (by omega)]; exact w.1.symm
      rw [p, e3.1, e2.1, e1.1, hu] at g7
      exact g7 hv a k
    · have p : (if u % 12 = 11 then 72 else 12 * (u / 12) + (u % 12 + 1)) = v := by rw [if_neg (by omega)]; exact w.1.symm
      rw [p, e2.1, e1.1, hu] at c7
      exact g6.2.2 v hv (c7 hv a k)
theorem stepsM_l {δ : St} {n m b0 : Nat} {h tv : Int32} {f : Nat → Int32} (hh : Hh h) (hb : b0 ≤ 1) (hm : m < n) : ∀ (j i fuel : Nat) (ρ : St) (far : Nat → Int32) (Q dd : Nat → Nat) (q : Nat) (v5 : Int32), i + j = 72 → j < fuel → CR δ n f ρ → Mfq far Q q ρ → BB b0 (srF δ n f h m) (okF δ n f h m) far Q dd q i →
    ((v5 = -1 ∧ ∀ k, k < i → ¬ tgF tv (Q k)) ∨ (tv = -1 ∧ v5 ≠ -1 ∧ RES (b0 + e0F tv) (srF δ n f h m) (okF δ n f h m) (tgF tv) v5)) →
    ∃ r ρ', f12_stepsTo_p130 fuel ρ 101 (nI m) tv h (nI q) v5 (nI i) = some (r, ρ') ∧ Fr Wbm ρ ρ' ∧ CR δ n f ρ' ∧ RES (b0 + e0F tv) (srF δ n f h m) (okF δ n f h m) (tgF tv) r := by
  intro j
  induction j with
  | zero =>
    intro i fuel ρ far Q dd q v5 hij hf C S B no
    obtain ⟨g, rfl, -⟩ := suc_of hf
    have := B.1.1
    have e : i = q := by omega
    subst e
    refine ⟨v5, ρ, by rw [f12_stepsTo_p130, if_neg (nI_nlt (by omega) (by omega))], Fr_rf, C, ?_⟩
    rcases no with ⟨e, no⟩ | ⟨-, -, no⟩
    · rw [e]; exact RES_end B no
    · exact no
  | succ j ih =>
    intro i fuel ρ far Q dd q v5 hij hf C S B no
    obtain ⟨g, rfl, -⟩ := suc_of hf
    have M := C.1.1
    by_cases hi : i < q
    · obtain ⟨u72, fu, -⟩ := far_hd B hi
      have go : ∀ v5', ((v5' = -1 ∧ ∀ k, k < i + 1 → ¬ tgF tv (Q k)) ∨ (tv = -1 ∧ v5' ≠ -1 ∧ RES (b0 + e0F tv) (srF δ n f h m) (okF δ n f h m) (tgF tv) v5')) → ∃ r ρ', f12_stepsTo_p190 (f12_stepsTo_p130 g) ρ 101 (nI m) tv h (nI q) v5' (nI i) (nI (Q i)) = some (r, ρ') ∧ Fr Wbm ρ ρ' ∧ CR δ n f ρ' ∧ RES (b0 + e0F tv) (srF δ n f h m) (okF δ n f h m) (tgF tv) r := fun v5' nt => by
        obtain ⟨ρ1, far', Q', dd', q', a1, a2, a3, a4, a5, a6⟩ := round_m (f12_stepsTo_p130 g) tv v5' C S hh B hb hi hm
        obtain ⟨r, ρ', c1, c2, c3, c4⟩ := ih (i + 1) g ρ1 far' Q' dd' q' v5' (by omega) (by omega) a3 a4 a5 (by
          rcases nt with ⟨e, nt⟩ | nt
          · exact Or.inl ⟨e, fun k hk => by rw [(a6.2.1 k (by omega)).1]; exact nt k hk⟩
          · exact Or.inr nt)
        exact ⟨r, ρ', by rw [a1]; exact c1, Fr_tr a2 c2, c3, c4⟩
      have more : ∀ {P : Nat → Prop}, (∀ k, k < i → ¬ P k) → ¬ P i → ∀ k, k < i + 1 → ¬ P k := fun a b k hk => by
        by_cases e : k = i
        · rw [e]; exact b
        · exact a k (by omega)
      have head : f12_stepsTo_p130 (g + 1) ρ 101 (nI m) tv h (nI q) v5 (nI i) = if nI (Q i) = tv then some (far (Q i), ρ) else if tv = -1 then (if v5 = -1 then (if Q i / 12 = 0 ∨ Q i / 12 = 5 then f12_stepsTo_p190 (f12_stepsTo_p130 g) ρ 101 (nI m) tv h (nI q) (far (Q i) + 1) (nI i) (nI (Q i)) else f12_stepsTo_p190 (f12_stepsTo_p130 g) ρ 101 (nI m) tv h (nI q) v5 (nI i) (nI (Q i))) else f12_stepsTo_p190 (f12_stepsTo_p130 g) ρ 101 (nI m) tv h (nI q) v5 (nI i) (nI (Q i))) else f12_stepsTo_p190 (f12_stepsTo_p130 g) ρ 101 (nI m) tv h (nI q) v5 (nI i) (nI (Q i)) := by
        rw [f12_stepsTo_p130, if_pos (nI_lt hi (by have := B.1.1; omega)), gd_t (oL101 M), lt_b, rL101_78 M, gd_t nz_s, gd_t (oL152 M), gd_t (inb_n (lL152 M) (by have := B.1.1; omega) (by decide)), ix_n (by omega), S.2 i hi, lt_b, lt_b, rL101_77 M, gd_t nz_s, gd_t (oL151 M), gd_t (inb_n (lL151 M) u72 (by decide)), ix_n (by omega), S.1 _ u72, bd_s (isShoreM_s u72), ite_B, lt_b, rL101_77 M, gd_t nz_s, gd_t (oL151 M), gd_t (inb_n (lL151 M) u72 (by decide)), S.1 _ u72, lt_b]
      rw [head]
      by_cases c1 : nI (Q i) = tv
      · have tn : tv ≠ -1 := by rw [← c1]; exact nI_nm (by omega)
        rw [if_pos c1]
        rcases no with ⟨-, no⟩ | ⟨e, -⟩
        · have := RES_at (e := 0) B hi no (Or.inl c1.symm : tgF tv (Q i))
          refine ⟨_, ρ, rfl, Fr_rf, C, ?_⟩
          have e0 : e0F tv = 0 := if_neg tn
          rw [e0]
          rw [show far (Q i) + nI 0 = far (Q i) from Int32.add_zero _] at this
          exact this
        · exact absurd e tn
      · rw [if_neg c1]
        by_cases c2 : tv = -1
        · rw [if_pos c2]
          rcases no with ⟨e, no⟩ | ⟨-, e, no⟩
          · rw [if_pos e]
            by_cases c3 : Q i / 12 = 0 ∨ Q i / 12 = 5
            · have e0 : e0F tv = 1 := if_pos c2
              have res := RES_at (e := 1) B hi no (Or.inr ⟨c2, c3⟩ : tgF tv (Q i))
              rw [if_pos c3]
              refine go _ (Or.inr ⟨c2, ?_, by rw [e0]; exact res⟩)
              rw [fu, nI_1]
              have := far_hd B hi
              exact nI_nm (by omega)
            · rw [if_neg c3]
              exact go v5 (Or.inl ⟨e, more (P := fun k => tgF tv (Q k)) no (fun w => by
                rcases w with w | ⟨-, w⟩
                · exact c1 w.symm
                · exact c3 w)⟩)
          · rw [if_neg e]
            exact go v5 (Or.inr ⟨c2, e, no⟩)
        · rw [if_neg c2]
          rcases no with ⟨e, no⟩ | ⟨e, -⟩
          · exact go v5 (Or.inl ⟨e, more (P := fun k => tgF tv (Q k)) no (fun w => by
              rcases w with w | ⟨w, -⟩
              · exact c1 w.symm
              · exact c2 w)⟩)
          · exact absurd e c2
    · have := B.1.1
      have e : i = q := by omega
      subst e
      refine ⟨v5, ρ, by rw [f12_stepsTo_p130, if_neg (nI_nlt (by omega) (by omega))], Fr_rf, C, ?_⟩
      rcases no with ⟨e, no⟩ | ⟨-, -, no⟩
      · rw [e]; exact RES_end B no
      · exact no
/-- nothing seen -/
theorem clearM_l (m tv h v4 : Int32) : ∀ (j b fuel : Nat) (ρ : St), b + j = 72 → j < fuel → Lay ρ → ∃ ρ' g, f12_stepsTo_p6 fuel ρ 101 m tv h v4 (nI b) = f12_stepsTo_p6 (g + 1) ρ' 101 m tv h v4 72 ∧ Fr Wbm ρ ρ' ∧ (∀ v, v < b → sI ρ' 151 v = sI ρ 151 v) ∧ ∀ v, b ≤ v → v < 72 → sI ρ' 151 v = -1 := by
  intro j
  induction j with
  | zero =>
    intro b fuel ρ hb hf M
    obtain ⟨g, rfl, -⟩ := suc_of hf
    have e : b = 72 := by omega
    subst e
    exact ⟨ρ, g, rfl, Fr_rf, fun _ _ => rfl, fun v h1 h2 => absurd h2 (by omega)⟩
  | succ j ih =>
    intro b fuel ρ hb hf M
    obtain ⟨g, rfl, -⟩ := suc_of hf
    obtain ⟨ρ', g', a1, a2, a3, a4⟩ := ih (b + 1) g (wI ρ 151 b (-1)) (by omega) (by omega) (Lay_wI M)
    refine ⟨ρ', g', ?_, Fr_tr (Fr_wI Fr_rf (Or.inl (by unfold Wbm; omega))) a2, fun v hv => by rw [a3 v (by omega), sI_wk (by omega)], fun v h1 h2 => ?_⟩
    · rw [f12_stepsTo_p6, if_pos (show nI b < 72 from nI_lt (b := 72) (by omega) (by decide)), gd_t (oL101 M), lt_b, rL101_77 M, gd_t nz_s, gd_t (oL151 M), gd_t (inb_n (lL151 M) (by omega) (by decide)), ix_n (by omega), lt_b, nI_1, lt_b]
      exact a1
    · by_cases c : v = b
      · rw [c, a3 b (by omega), sI_w1]
      · exact a4 v (by omega) h2
theorem shoresM_l {δ : St} {n m : Nat} {h tv : Int32} {f : Nat → Int32} (hh : Hh h) (fm : f m = -1) (hm : m < n) : ∀ (j b fuel : Nat) (ρ : St) (far : Nat → Int32) (Q dd : Nat → Nat) (q : Nat), b + j = 72 → j < fuel → CR δ n f ρ → Mfq far Q q ρ → BJ 1 (srF δ n f h m) (okF δ n f h m) far Q dd q 0 → (∀ k, dd k = 0) → (∀ v, v < 72 → srF δ n f h m v → v < b → far v ≠ -1) → (∀ v, b ≤ v → v < 72 → far v = -1) →
    ∃ ρ' far' Q' dd' q', f12_stepsTo_p69 fuel ρ 101 (nI m) tv h (nI q) (nI b) = f12_stepsTo_p130 FU ρ' 101 (nI m) tv h (nI q') (-1) 0 ∧ Fr Wbm ρ ρ' ∧ CR δ n f ρ' ∧ Mfq far' Q' q' ρ' ∧ BB 1 (srF δ n f h m) (okF δ n f h m) far' Q' dd' q' 0 := by
  intro j
  induction j with
  | zero =>
    intro b fuel ρ far Q dd q hb hf C S B z al un0
    obtain ⟨g, rfl, -⟩ := suc_of hf
    have e : b = 72 := by omega
    subst e
    refine ⟨ρ, far, Q, dd, q, ?_, Fr_rf, C, S, B, fun v hv h => al v hv h hv⟩
    rw [f12_stepsTo_p69, if_neg (by decide)]
    rfl
  | succ j ih =>
    intro b fuel ρ far Q dd q hb hf C S B z al un0
    obtain ⟨g, rfl, -⟩ := suc_of hf
    have M := C.1.1
    have b72 : b < 72 := by omega
    have fb := un0 b (Nat.le_refl _) b72
    have nst : ¬ (okF δ n f h m b ∧ shR b) → ∀ v, v < 72 → srF δ n f h m v → v < b + 1 → far v ≠ -1 := fun no v hv st lt => by
      by_cases c : v = b
      · rw [c] at st
        rcases st with w | ⟨-, w⟩
        · rw [fm] at w; exact absurd w.symm (nI_nm (by omega))
        · exact absurd w no
      · exact al v hv st (by omega)
    rw [f12_stepsTo_p69, if_pos (show nI b < 72 from nI_lt (b := 72) b72 (by decide)), bd_s (isShoreM_s b72), ite_B]
    by_cases c1 : b / 12 = 0 ∨ b / 12 = 5
    · rw [if_pos c1, gd_t (oL101 M), bd_s (isFree_s C hh hm b72 (by rw [fm]; exact fun e => nI_nm (by omega) e.symm)), ite_B]
      by_cases c2 : okF δ n f h m b
      · have q72 := room_q B b72 fb
        obtain ⟨g1, g2, g3⟩ := see_m (w := b) (x := 1) C S
        have M1 : Lay (wI ρ 151 b (nI 1)) := Lay_wI M
        obtain ⟨x1, x2⟩ := BJ_st B z (by omega) b72 fb (Or.inr ⟨fm, c2, c1⟩)
        obtain ⟨ρ', f3, Q3, d3, q3, e1, e2, e3, e4, e5⟩ := ih (b + 1) g _ _ _ _ _ (by omega) (by omega) g2 g3 x1 x2 (fun v hv st lt => by
          unfold ud
          by_cases c : v = b
          · rw [if_pos c]; exact nI_nm (by omega)
          · rw [if_neg c]; exact al v hv st (by omega)) (fun v h1 h2 => by
          unfold ud
          rw [if_neg (by omega)]
          exact un0 v (by omega) h2)
        refine ⟨ρ', f3, Q3, d3, q3, ?_, Fr_tr g1 e2, e3, e4, e5⟩
        rw [if_pos c2, lt_b, rL101_77 M, gd_t nz_s, gd_t (oL151 M), gd_t (inb_n (lL151 M) b72 (by decide)), ix_n (by omega), lt_b]
        have M1' : Lay (wI ρ 151 b 1) := M1
        rw [lt_b, rL101_78 M1', gd_t nz_s, gd_t (oL152 M1'), gd_t (inb_n (lL152 M1') q72 (by decide)), ix_n (by omega), lt_b, nI_1, lt_b]
        unfold f12_stepsTo_p118
        rw [lt_b, nI_1]
        exact e1
      · rw [if_neg c2]
        unfold f12_stepsTo_p118
        rw [lt_b, nI_1]
        obtain ⟨ρ', f3, Q3, d3, q3, e1, e2, e3, e4, e5⟩ := ih (b + 1) g ρ far Q dd q (by omega) (by omega) C S B z (nst (fun w => c2 w.1)) (fun v h1 h2 => un0 v (by omega) h2)
        exact ⟨ρ', f3, Q3, d3, q3, e1, e2, e3, e4, e5⟩
    · rw [if_neg c1]
      unfold f12_stepsTo_p118
      rw [lt_b, nI_1]
      obtain ⟨ρ', f3, Q3, d3, q3, e1, e2, e3, e4, e5⟩ := ih (b + 1) g ρ far Q dd q (by omega) (by omega) C S B z (nst (fun w => c1 w.2)) (fun v h1 h2 => un0 v (by omega) h2)
      exact ⟨ρ', f3, Q3, d3, q3, e1, e2, e3, e4, e5⟩
theorem stepsM_s {δ ρ : St} {n m : Nat} {h tv : Int32} {f : Nat → Int32} (C : CR δ n f ρ) (hh : Hh h) (hm : m < n) (fm : f m = -1 ∨ ∃ s, s < 72 ∧ f m = nI s) :
    ∃ r ρ', f12_stepsTo ρ 101 (nI m) tv h = some (r, ρ') ∧ Fr Wbm ρ ρ' ∧ CR δ n f ρ' ∧ RES (b0F f m + e0F tv) (srF δ n f h m) (okF δ n f h m) (tgF tv) r := by
  have M := C.1.1
  have n6 := C.1.2.2.2.2.2.2.1
  obtain ⟨ρ1, g, a1, a2, -, a4⟩ := clearM_l (nI m) tv h 0 72 0 FU ρ (by omega) (by unfold FU; omega) M
  have C1 : CR δ n f ρ1 := CR_Fr a2 (fun a k v u => by unfold Wbm at u; omega) C
  have M1 := C1.1.1
  have far0 : ∀ v, v < 72 → sI ρ1 151 v = -1 := fun v hv => a4 v (by omega) hv
  have S0 : Mfq (fun v => sI ρ1 151 v) (fun _ => 0) 0 ρ1 := ⟨fun _ _ => rfl, fun j hj => absurd hj (by omega)⟩
  have main : ∃ ρ2 far Q dd q, f12_stepsTo_p6 (g + 1) ρ1 101 (nI m) tv h 0 72 = f12_stepsTo_p130 FU ρ2 101 (nI m) tv h (nI q) (-1) 0 ∧ Fr Wbm ρ1 ρ2 ∧ CR δ n f ρ2 ∧ Mfq far Q q ρ2 ∧ BB (b0F f m) (srF δ n f h m) (okF δ n f h m) far Q dd q 0 := by
    have head : f12_stepsTo_p6 (g + 1) ρ1 101 (nI m) tv h 0 72 = if f m < 0 then f12_stepsTo_p69 FU ρ1 101 (nI m) tv h 0 0 else lt (sR ρ1 101 77) fun b19 => gd (nz b19) (gd (ob ρ1 b19 14) (gd (inb ρ1 b19 (f m)) (lt (wI ρ1 b19 (ix (f m)) 0) fun t24 => lt (sR t24 101 78) fun b26 => gd (nz b26) (gd (ob t24 b26 14) (gd (inb t24 b26 0) (lt (wI t24 b26 (ix 0) (sI t24 109 m)) fun t31 => f12_stepsTo_p124 t31 101 (nI m) tv h 1)))))) := by
      rw [f12_stepsTo_p6, if_neg (by decide), gd_t (oL101 M1), lt_b, rL101_9 M1, gd_t nz_s, gd_t (oL109 M1), gd_t (inb_n (lL109 M1) (by omega) (by decide)), ix_n (by omega), C1.2 m hm]
    rw [head]
    rcases fm with e | ⟨s, hs, e⟩
    · have b1 : b0F f m = 1 := if_pos e
      rw [b1, if_pos (by rw [e]; decide)]
      obtain ⟨ρ', f3, Q3, d3, q3, e1, e2, e3, e4, e5⟩ := shoresM_l (tv := tv) hh e hm 72 0 FU ρ1 _ _ _ _ (by omega) (by unfold FU; omega) C1 S0 (BJ_0 far0) (fun _ => rfl) (fun v _ _ lt => absurd lt (by omega)) (fun v _ hv => far0 v hv)
      exact ⟨ρ', f3, Q3, d3, q3, e1, e2, e3, e4, e5⟩
    · have ne : f m ≠ -1 := by rw [e]; exact nI_nm (by omega)
      have b1 : b0F f m = 0 := if_neg ne
      rw [b1, e, if_neg (nI_pos (by omega))]
      obtain ⟨x1, x2⟩ := BJ_st (BJ_0 (b0 := 0) (st := srF δ n f h m) (ok := okF δ n f h m) far0) (fun _ => rfl) (by omega) hs (far0 s hs) (Or.inl e)
      obtain ⟨g1, g2, g3⟩ := see_m (w := s) (x := 0) C1 S0
      have M2 : Lay (wI ρ1 151 s 0) := Lay_wI M1
      refine ⟨_, _, _, _, _, ?_, g1, g2, g3, x1, fun v hv st => ?_⟩
      · rw [lt_b, rL101_77 M1, gd_t nz_s, gd_t (oL151 M1), gd_t (inb_n (lL151 M1) hs (by decide)), ix_n (by omega), lt_b, lt_b, rL101_78 M2, gd_t nz_s, gd_t (oL152 M2), gd_t (inb_k0 (lL152 M2) (by decide) (by decide)), sI_wo (by decide), C1.2 m hm, e, lt_b]
        rfl
      · rcases st with w | ⟨w, -⟩
        · rw [e] at w
          have := (nI_eq (by omega) (by omega)).mp w
          unfold ud
          rw [if_pos this.symm]
          exact nI_nm (by omega)
        · exact absurd w ne
  obtain ⟨ρ2, far, Q, dd, q, c1, c2, c3, c4, c5⟩ := main
  obtain ⟨r, ρ', g1, g2, g3, g4⟩ := stepsM_l (tv := tv) hh b0F_le hm 72 0 FU ρ2 far Q dd q (-1) (by omega) (by unfold FU; omega) c3 c4 c5 (Or.inl ⟨rfl, fun k hk => absurd hk (by omega)⟩)
  refine ⟨r, ρ', ?_, Fr_tr a2 (Fr_tr c2 g2), g3, g4⟩
  unfold f12_stepsTo
  have a1' : f12_stepsTo_p6 FU ρ 101 (nI m) tv h 0 0 = _ := a1
  rw [a1', c1]
  exact g1
