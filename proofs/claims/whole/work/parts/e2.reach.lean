/-! THE CLASS'S STEPS to a berth -/
abbrev okF (δ : St) (n : Nat) (f : Nat → Int32) (h : Int32) (m v : Nat) : Prop := lyF f (nI v) n 0 = -1 ∧ ¬ dpF (sI δ 3 v) h < sI δ (29 + m) 0
def Wbf (x k : Nat) : Prop := x = 98 ∨ x = 99 ∨ x = 94 ∧ k = 7
theorem lt6i {l : Nat} (h : l < 6) : nI l < 6 := nI_lt (b := 6) h (by decide)
theorem reach_s {σ : St} (L : Lay σ) {n l s m w q : Nat} (hn : sI σ 2 5 = nI n) (n6 : n ≤ 6) (hl : l < 6) (hs : s < 12) (ew : w = 12 * l + s) (hm : m < 6) (h7 : sI σ 94 7 = nI q) (hq : sI σ 98 w = -1 → q < 72) (x : Int32) :
    f5_reach σ 94 (nI m) (nI l) (nI s) x = some ((), if sI σ 98 w = -1 ∧ okF σ n (sI σ 97) (sI σ 94 8) m w then wI (wI (wI σ 98 w x) 99 q (nI w)) 94 7 (nI (q + 1)) else σ) := by
  have w72 : w < 72 := by omega
  have ey : nI l * 12 + nI s = nI w := by
    have : nI l * 12 = nI (l * 12) := pk_mul l 12
    rw [this, nI_add, ew, Nat.mul_comm]
  have M1 : Lay (wI σ 98 w x) := Lay_wI L
  have M2 : Lay (wI (wI σ 98 w x) 99 q (nI w)) := Lay_wI M1
  unfold f5_reach
  rw [if_neg (nI_pos (by omega)), if_pos (lt6i hl), if_neg (nI_pos (by omega)), if_pos (show nI s < 12 from nI_lt (b := 12) hs (by decide)), ey, lt_b, gd_t (oL94 L), lt_b, rL94_5 L, gd_t nz_s, gd_t (oL98 L), gd_t (inb_n (lL98 L) w72 (by decide)), ix_n (by omega)]
  by_cases c1 : sI σ 98 w = -1
  · have q72 := hq c1
    rw [if_pos c1, h7, if_pos (show nI q < 72 from nI_lt (b := 72) q72 (by decide)), lt_b, rL94_0 L, gd_t nz_s, lt_b, rL94_4 L, gd_t nz_s, gd_t (oL2 L), bd_s (lyingAt_s L hn n6 (oL97 L) (lL97 L))]
    by_cases c2 : lyF (sI σ 97) (nI w) n 0 = -1
    · rw [if_pos c2, lt_b, rL94_0 L, gd_t nz_s, gd_t (oL2 L), bd_s (bears_s L w72 hm)]
      by_cases c3 : dpF (sI σ 3 w) (sI σ 94 8) < sI σ (29 + m) 0
      · rw [if_pos c3, if_pos rfl, if_neg (fun v => v.2.2 c3)]
      · rw [if_neg c3, if_neg (by decide), lt_b, rL94_5 L, gd_t nz_s, gd_t (oL98 L), gd_t (inb_n (lL98 L) w72 (by decide)), lt_b, lt_b, rL94_6 M1, gd_t nz_s, gd_t (oL99 M1), sI_wo (by decide), h7, gd_t (inb_n (lL99 M1) q72 (by decide)), ix_n (by omega), lt_b, sI_wo (by decide), sI_wo (by decide), h7, nI_1, lt_b, if_pos ⟨c1, c2, c3⟩]
    · rw [if_neg c2, if_neg (fun v => c2 v.2.1)]
  · rw [if_neg c1, if_neg (fun v => c1 v.1)]
theorem reach_out {σ : St} {l s : Int32} (h : l < 0 ∨ ¬ l < 6 ∨ s < 0 ∨ ¬ s < 12) (m x : Int32) : f5_reach σ 94 m l s x = some ((), σ) := by
  unfold f5_reach
  by_cases c1 : l < 0
  · rw [if_pos c1]
  · rw [if_neg c1]
    by_cases c2 : l < 6
    · rw [if_pos c2]
      by_cases c3 : s < 0
      · rw [if_pos c3]
      · rw [if_neg c3]
        by_cases c4 : s < 12
        · rcases h with h | h | h | h
          · exact absurd h c1
          · exact absurd c2 h
          · exact absurd h c3
          · exact absurd c4 h
        · rw [if_neg c4]
    · rw [if_neg c2]
/-- where the mover stands -/
def CA (δ : St) (n : Nat) (h : Int32) (f : Nat → Int32) (σ : St) : Prop := Lay σ ∧ (∀ x, x ≤ 34 → sI σ x = sI δ x) ∧ sI δ 2 5 = nI n ∧ n ≤ 6 ∧ sI σ 94 8 = h ∧ ∀ k, k < n → sI σ 97 k = f k
def CS (far : Nat → Int32) (Q : Nat → Nat) (q : Nat) (σ : St) : Prop := (∀ v, v < 72 → sI σ 98 v = far v) ∧ (∀ j, j < q → sI σ 99 j = nI (Q j)) ∧ sI σ 94 7 = nI q
theorem CA_Fr {W : Nat → Nat → Prop} {δ σ τ : St} {n : Nat} {h : Int32} {f : Nat → Int32} (F : Fr W σ τ) (hw : ∀ x k, x ≤ 34 ∨ x = 97 ∨ x = 94 ∧ k = 8 → ¬ W x k) (c : CA δ n h f σ) : CA δ n h f τ := by
  obtain ⟨L, c1, c2, c3, c4, c5⟩ := c
  have hN := L.2.2
  exact ⟨Lay_Fr F L, fun x hx => funext fun k => by rw [Fr_i F (by omega) (hw x k (by omega)), c1 x hx], c2, c3, by rw [Fr_i F (by omega) (hw _ _ (by omega))]; exact c4, fun k hk => by rw [Fr_i F (by omega) (hw _ _ (by omega))]; exact c5 k hk⟩
theorem ok_cg {δ σ : St} {n : Nat} {h : Int32} {f : Nat → Int32} (c : CA δ n h f σ) {m v : Nat} (hm : m < 6) : okF σ n (sI σ 97) (sI σ 94 8) m v ↔ okF δ n f h m v := by
  obtain ⟨L, c1, c2, c3, c4, c5⟩ := c
  unfold okF
  rw [lyF_eq c5, c4, c1 3 (by omega), c1 (29 + m) (by omega)]
/-- one neighbour tried, whatever is known -/
theorem reach_w {δ σ : St} {n l s m w q : Nat} {h : Int32} {f far : Nat → Int32} {Q : Nat → Nat} (C : CA δ n h f σ) (S : CS far Q q σ) (hl : l < 6) (hs : s < 12) (ew : w = 12 * l + s) (hm : m < 6) (hq : far w = -1 → q < 72) (x : Nat) :
    ∃ σ', f5_reach σ 94 (nI m) (nI l) (nI s) (nI x) = some ((), σ') ∧ Fr Wbf σ σ' ∧ CA δ n h f σ' ∧ ((far w = -1 ∧ okF δ n f h m w → CS (ud far w (nI x)) (un Q q w) (q + 1) σ') ∧ (¬ (far w = -1 ∧ okF δ n f h m w) → CS far Q q σ')) := by
  have L := C.1
  obtain ⟨s1, s2, s3⟩ := S
  have w72 : w < 72 := by omega
  have e := reach_s L (n := n) (w := w) (q := q) (by rw [C.2.1 2 (by omega)]; exact C.2.2.1) C.2.2.2.1 hl hs ew hm s3 (fun v => hq (by rw [← s1 w w72]; exact v)) (nI x)
  rw [s1 w w72] at e
  refine ⟨_, e, ?_⟩
  by_cases c : far w = -1 ∧ okF δ n f h m w
  · have c' : far w = -1 ∧ okF σ n (sI σ 97) (sI σ 94 8) m w := ⟨c.1, (ok_cg C hm).mpr c.2⟩
    rw [if_pos c']
    have F : Fr Wbf σ (wI (wI (wI σ 98 w (nI x)) 99 q (nI w)) 94 7 (nI (q + 1))) := by
      refine Fr_wI (Fr_wI (Fr_wI Fr_rf ?_) ?_) ?_ <;> exact Or.inl (by unfold Wbf; omega)
    refine ⟨F, CA_Fr F (fun a k v u => by unfold Wbf at u; omega) C, fun _ => ⟨fun v hv => ?_, fun j hj => ?_, sI_w1 _ _ _ _⟩, fun v => absurd c v⟩
    · rw [sI_wo (by decide), sI_wo (by decide)]
      unfold ud
      by_cases ev : v = w
      · rw [if_pos ev, ev, sI_w1]
      · rw [if_neg ev, sI_wk ev]; exact s1 v hv
    · rw [sI_wo (by decide)]
      unfold un
      by_cases ej : j = q
      · rw [if_pos ej, ej, sI_w1]
      · rw [if_neg ej, sI_wk ej, sI_wo (by decide)]; exact s2 j (by omega)
  · have c' : ¬ (far w = -1 ∧ okF σ n (sI σ 97) (sI σ 94 8) m w) := fun v => c ⟨v.1, (ok_cg C hm).mp v.2⟩
    rw [if_neg c']
    exact ⟨Fr_rf, C, fun v => absurd v c, fun _ => ⟨s1, s2, s3⟩⟩
/-- a neighbour of the head tried -/
theorem reach_b {δ σ : St} {n l s m w q i b0 : Nat} {st : Nat → Prop} {h : Int32} {f far : Nat → Int32} {Q dd : Nat → Nat} (C : CA δ n h f σ) (S : CS far Q q σ) (B : BB b0 st (okF δ n f h m) far Q dd q i) (hb : b0 ≤ 1) (hi : i < q) (hl : l < 6) (hs : s < 12) (ew : w = 12 * l + s) (a : adj (Q i) w) (hm : m < 6) :
    ∃ σ' far' Q' dd' q', f5_reach σ 94 (nI m) (nI l) (nI s) (nI (b0 + (dd i + 1))) = some ((), σ') ∧ Fr Wbf σ σ' ∧ CA δ n h f σ' ∧ CS far' Q' q' σ' ∧ BB b0 st (okF δ n f h m) far' Q' dd' q' i ∧ EX far Q dd q far' Q' dd' q' ∧ (okF δ n f h m w → far' w ≠ -1) := by
  have w72 : w < 72 := by omega
  obtain ⟨σ', a1, a2, a3, a4, a5⟩ := reach_w C S hl hs ew hm (fun v => room_q B.1 w72 v) (b0 + (dd i + 1))
  have q1 : b0 + (dd i + 1) < 1000 := by
    have := (B.1.2.1 i hi).2.2.2
    have := B.1.1.1
    omega
  by_cases c : far w = -1 ∧ okF δ n f h m w
  · exact ⟨σ', _, _, _, _, a1, a2, a3, a4 c, BB_new B hb hi w72 c.1 c.2 a, EX_put q1, fun _ => by
      unfold ud
      rw [if_pos rfl]
      exact nI_nm q1⟩
  · exact ⟨σ', _, _, _, _, a1, a2, a3, a5 c, B, EX_rf, fun k v => c ⟨v, k⟩⟩
/-- one that may lie outside -/
theorem reach_n {δ σ : St} {n m q i b0 : Nat} {st : Nat → Prop} {h : Int32} {f far : Nat → Int32} {Q dd : Nat → Nat} {lI sI' : Int32} (w : Nat) (C : CA δ n h f σ) (S : CS far Q q σ) (B : BB b0 st (okF δ n f h m) far Q dd q i) (hb : b0 ≤ 1) (hi : i < q) (hm : m < 6)
    (h1 : (∃ l s, l < 6 ∧ s < 12 ∧ lI = nI l ∧ sI' = nI s ∧ w = 12 * l + s ∧ adj (Q i) w) ∨ ((lI < 0 ∨ ¬ lI < 6 ∨ sI' < 0 ∨ ¬ sI' < 12) ∧ ¬ (w < 72 ∧ adj (Q i) w))) :
    ∃ σ' far' Q' dd' q', f5_reach σ 94 (nI m) lI sI' (nI (b0 + (dd i + 1))) = some ((), σ') ∧ Fr Wbf σ σ' ∧ CA δ n h f σ' ∧ CS far' Q' q' σ' ∧ BB b0 st (okF δ n f h m) far' Q' dd' q' i ∧ EX far Q dd q far' Q' dd' q' ∧ (w < 72 → adj (Q i) w → okF δ n f h m w → far' w ≠ -1) := by
  rcases h1 with ⟨l, s, hl, hs, rfl, rfl, ew, a⟩ | ⟨h1, h2⟩
  · obtain ⟨σ', far', Q', dd', q', a1, a2, a3, a4, a5, a6, a7⟩ := reach_b C S B hb hi hl hs ew a hm
    exact ⟨σ', far', Q', dd', q', a1, a2, a3, a4, a5, a6, fun _ _ k => a7 k⟩
  · exact ⟨σ, far, Q, dd, q, reach_out h1 _ _, Fr_rf, C, S, B, EX_rf, fun v a => absurd ⟨v, a⟩ h2⟩
