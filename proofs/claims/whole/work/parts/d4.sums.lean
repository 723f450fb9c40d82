/-! THE CLASS SUMS what lies above all trials -/
theorem ctP_ex {q : Nat → Bool} {l : Nat} : ∀ n, l < ctP q n → ∃ m, m < n ∧ q m = true ∧ ctP q m = l := by
  intro n
  induction n with
  | zero => intro h; exact absurd h (Nat.not_lt_zero l)
  | succ n ih =>
    intro h
    by_cases c : q n = true
    · rw [ctP_t c] at h
      by_cases e : l = ctP q n
      · exact ⟨n, by omega, c, e.symm⟩
      · obtain ⟨m, h1, h2, h3⟩ := ih (by omega)
        exact ⟨m, by omega, h2, h3⟩
    · rw [ctP_n c] at h
      obtain ⟨m, h1, h2, h3⟩ := ih h
      exact ⟨m, by omega, h2, h3⟩
theorem ltD_gap {tm : Nat → Int32} {p : Nat → Bool} {n : Nat} : ∀ j m m2, m + j = m2 → m2 ≤ n → (∀ q, m ≤ q → q < m2 → ¬ p q = true) → ltD tm p (n - m) m = ltD tm p (n - m2) m2 := by
  intro j
  induction j with
  | zero => intro m m2 e _ _; rw [show m = m2 by omega]
  | succ j ih =>
    intro m m2 e h2 g
    rw [← ih (m + 1) m2 (by omega) h2 (fun q a b => g q (by omega) b), show n - m = (n - (m + 1)) + 1 by omega]
    show (if p m = true then _ else _ : Int32) = _
    rw [if_neg (g m (Nat.le_refl _) (by omega))]
theorem ctP_same {q : Nat → Bool} {a b k : Nat} (h : ctP q a = ctP q b) (h1 : a ≤ k) (h2 : k < b) : ¬ q k = true := fun c => by
  have x := ctP_mo (q := q) h1
  have y := ctP_lt (q := q) h2 c
  omega
/-- the value at a level -/
def lvOk (tm : Nat → Int32) (p : Nat → Bool) (n l : Nat) (x : Int32) : Prop := (∀ m, m ≤ n → ctP p m = l → x = ltD tm p (n - m) m) ∧ (ctP p n < l → x = 0)
theorem lvOk_dn {tm : Nat → Int32} {p : Nat → Bool} {n l : Nat} {x : Int32} (h : lvOk tm p n (l + 1) x) : (∀ m0, m0 < n → p m0 = true → ctP p m0 = l → lvOk tm p n l (x + tm m0)) ∧ (ctP p n ≤ l → lvOk tm p n l (x + 0)) := by
  constructor
  · intro m0 h1 h2 h3
    have e : x = ltD tm p (n - (m0 + 1)) (m0 + 1) := h.1 (m0 + 1) (by omega) (by rw [ctP_t h2, h3])
    refine ⟨fun m hm hc => ?_, fun w => ?_⟩
    · have le : m ≤ m0 := by
        by_cases c : m ≤ m0
        · exact c
        · have := ctP_lt (q := p) (show m0 < m by omega) h2
          omega
      rw [ltD_gap (m0 - m) m m0 (by omega) (by omega) (fun q a b => ctP_same (by omega) a b), show n - m0 = (n - (m0 + 1)) + 1 by omega]
      show _ = (if p m0 = true then _ else _ : Int32)
      rw [if_pos h2, e]
    · have := ctP_lt (q := p) h1 h2
      omega
  · intro w
    rw [Int32.add_zero]
    by_cases c : ctP p n < l
    · have x0 := h.2 (by omega)
      refine ⟨fun m hm hc => ?_, fun _ => x0⟩
      have := ctP_mo (q := p) hm
      omega
    · have x0 := h.2 (by omega)
      refine ⟨fun m hm hc => ?_, fun w2 => absurd w2 (by omega)⟩
      rw [x0, ltD_gap (n - m) m n (by omega) (Nat.le_refl _) (fun q a b => ctP_same (by omega) a b), Nat.sub_self]
      rfl
theorem sums_l {n : Nat} {p : Nat → Bool} {tm : Nat → Int32} {ch : Nat → Nat → Bool} {ct : Nat → Nat → Int32} (w3 : ctP p n ≤ 3) (htm : ∀ m, m < n → tm m = fbF (fun b a => if ch m b = true then mxI a (ct m b) else a) 72 0 0 ∧ 0 ≤ (tm m).toInt) (c24 : ∀ m, ctP (ch m) 72 ≤ 24) :
    ∀ (l1 fuel : Nat) (x : Int32) (σ : St), l1 ≤ 3 → l1 < fuel → Lay σ → sI σ 78 12 = nI (ctP p n) →
      (∀ m, m < n → p m = true → sI σ 85 (ctP p m) = nI (ctP (ch m) 72 + 1) ∧ (∀ b, b < 72 → ch m b = true → sI σ (87 + ctP p m) (ctP (ch m) b) = ct m b) ∧ sI σ (87 + ctP p m) (ctP (ch m) 72) = 0) →
      lvOk tm p n l1 x → (∀ l, l1 ≤ l → l ≤ 3 → lvOk tm p n l (sI σ 90 l)) →
      ∃ σ', f6_sumTops_p11 fuel σ 78 x (nI l1 + -1) = some ((), σ') ∧ Fr Wtp σ σ' ∧ ∀ l, l ≤ 3 → lvOk tm p n l (sI σ' 90 l) := by
  intro l1
  induction l1 with
  | zero =>
    intro fuel x σ _ hf L h12 rows hx hl
    obtain ⟨fu, rfl, -⟩ := suc_of hf
    refine ⟨σ, ?_, Fr_rf, fun l h => hl l (by omega) h⟩
    rw [f6_sumTops_p11, if_pos (by decide)]
  | succ l ih =>
    intro fuel x σ hl3 hf L h12 rows hx hl
    obtain ⟨fu, rfl, -⟩ := suc_of hf
    have hN := L.2.2
    have el : nI (l + 1) + -1 = nI l := by
      have := nI_pred l
      rw [Int32.sub_eq_add_neg] at this
      exact this
    have next : ∀ v, lvOk tm p n l (x + v) → ∃ σ', f6_sumTops_p59 (f6_sumTops_p11 fu) σ 78 x (nI l) v = some ((), σ') ∧ Fr Wtp σ σ' ∧ ∀ l, l ≤ 3 → lvOk tm p n l (sI σ' 90 l) := fun v hv => by
      have F1 : Fr Wtp σ (wI σ 90 l (x + v)) := Fr_wI Fr_rf (Or.inl rfl)
      obtain ⟨σ', a1, a2, a3⟩ := ih fu (x + v) (wI σ 90 l (x + v)) (by omega) (by omega) (Lay_wI L) (by rw [sI_wo (by decide)]; exact h12) (fun m hm pm => by
        have lt := ctP_lt (q := p) hm pm
        obtain ⟨r1, r2, r3⟩ := rows m hm pm
        exact ⟨by rw [sI_wo (by decide)]; exact r1, fun b hb c => by rw [sI_wo (by omega)]; exact r2 b hb c, by rw [sI_wo (by omega)]; exact r3⟩) hv (fun q h1 h2 => by
        by_cases e : q = l
        · rw [e, sI_w1]; exact hv
        · rw [sI_wk e]; exact hl q (by omega) h2)
      refine ⟨σ', ?_, Fr_tr F1 a2, a3⟩
      unfold f6_sumTops_p59
      rw [lt_b, gd_t (oL78 L), lt_b, rL78_8 L, gd_t nz_s, gd_t (oL90 L), gd_t (inb_n (lL90 L) (by omega) (by decide)), lt_b, ix_n (by omega), lt_b]
      exact a1
    rw [f6_sumTops_p11, el, if_neg (nI_pos (by omega))]
    by_cases c : l < ctP p n
    · obtain ⟨m0, h1, h2, h3⟩ := ctP_ex n c
      obtain ⟨r1, r2, r3⟩ := rows m0 h1 h2
      rw [h3] at r1 r2 r3
      have ti := top_in L (by omega) (f6_sumTops_p11 fu) x h12 c w3 (c24 m0) r1 r2 r3 72 0 FU 0 (by omega) (by unfold FU; omega)
      have e0 : nI (ctP (ch m0) 0) = 0 := rfl
      rw [e0, ← (htm m0 h1).1] at ti
      have z : mxI (tm m0) 0 = tm m0 := by
        unfold mxI
        have z0 : (0 : Int32).toInt = 0 := rfl
        rw [if_neg (by rw [t_lt]; have := (htm m0 h1).2; omega)]
      rw [z] at ti
      rw [ti]
      exact next _ ((lvOk_dn hx).1 m0 h1 h2 h3)
    · have : f6_sumTops_p20 (f6_sumTops_p11 fu) FU σ 78 x (nI l) 0 0 = f6_sumTops_p59 (f6_sumTops_p11 fu) σ 78 x (nI l) 0 := by
        rw [show FU = 2999 + 1 from rfl, f6_sumTops_p20, gd_t (oL78 L), h12, if_neg (nI_nlt (by omega) (by omega))]
      rw [this]
      exact next _ ((lvOk_dn hx).2 (by omega))
theorem sumTops_s {n : Nat} {p : Nat → Bool} {tm : Nat → Int32} {ch : Nat → Nat → Bool} {ct : Nat → Nat → Int32} (w3 : ctP p n ≤ 3) (htm : ∀ m, m < n → tm m = fbF (fun b a => if ch m b = true then mxI a (ct m b) else a) 72 0 0 ∧ 0 ≤ (tm m).toInt) (c24 : ∀ m, ctP (ch m) 72 ≤ 24) {σ : St} (L : Lay σ) (h12 : sI σ 78 12 = nI (ctP p n))
      (rows : ∀ m, m < n → p m = true → sI σ 85 (ctP p m) = nI (ctP (ch m) 72 + 1) ∧ (∀ b, b < 72 → ch m b = true → sI σ (87 + ctP p m) (ctP (ch m) b) = ct m b) ∧ sI σ (87 + ctP p m) (ctP (ch m) 72) = 0) :
      ∃ σ', f6_sumTops σ 78 = some ((), σ') ∧ Fr Wtp σ σ' ∧ ∀ m, m ≤ n → sI σ' 90 (ctP p m) = ltD tm p (n - m) m := by
  have F1 : Fr Wtp σ (wI σ 90 3 0) := Fr_wI Fr_rf (Or.inl rfl)
  have l3 : lvOk tm p n 3 0 := by
    refine ⟨fun m hm hc => ?_, fun w => rfl⟩
    rw [ltD_gap (n - m) m n (by omega) (Nat.le_refl _) (fun q a b => ctP_same (by have := ctP_mo (q := p) hm; omega) a b), Nat.sub_self]
    rfl
  obtain ⟨σ', a1, a2, a3⟩ := sums_l w3 htm c24 3 FU 0 (wI σ 90 3 0) (by omega) (by unfold FU; omega) (Lay_wI L) (by rw [sI_wo (by decide)]; exact h12) (fun m hm pm => by
    have lt := ctP_lt (q := p) hm pm
    obtain ⟨r1, r2, r3⟩ := rows m hm pm
    exact ⟨by rw [sI_wo (by decide)]; exact r1, fun b hb c => by rw [sI_wo (by omega)]; exact r2 b hb c, by rw [sI_wo (by omega)]; exact r3⟩) l3 (fun l h1 h2 => by
    have e : l = 3 := by omega
    rw [e, sI_w1]; exact l3)
  refine ⟨σ', ?_, Fr_tr F1 a2, fun m hm => (a3 (ctP p m) (by have := ctP_mo (q := p) hm; omega)).1 m hm rfl⟩
  unfold f6_sumTops
  rw [gd_t (oL78 L), lt_b, rL78_8 L, gd_t nz_s, gd_t (oL90 L), show (3 : Int32) = nI 3 from rfl, gd_t (inb_n (lL90 L) (by decide) (by decide)), lt_b, ix_n (by decide)]
  exact a1
