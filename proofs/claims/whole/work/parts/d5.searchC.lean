/-! THE CLASS'S SEARCH, whole -/
def Wse (x k : Nat) : Prop := Wlh x k ∨ x = 78 ∧ (k = 3 ∨ 12 ≤ k ∧ k ≤ 15) ∨ x = 79 ∨ x = 80 ∨ 82 ≤ x ∧ x ≤ 85 ∨ 87 ≤ x ∧ x ≤ 93
def Wsl (x k : Nat) : Prop := Wlh x k ∨ x = 92 ∨ 82 ≤ x ∧ x ≤ 85 ∨ 87 ≤ x ∧ x ≤ 89
theorem caF_24 {n fr to m : Nat} {my : Nat → Nat → Bool} {f0 : Nat → Int32} (t11 : to ≤ 11) (hft : fr ≤ to) (t3 : to ≤ fr + 3) : ctP (fun b => caF n fr to my m b f0) 72 ≤ 24 := by
  refine Nat.le_trans (ctP_le (r := fun b => decide (fr ≤ b % 12 ∧ b % 12 ≤ to)) (fun k w => ?_) 72) (ctP_24 fr (by omega) to (by omega) t3)
  unfold caF at w
  simp only [Bool.and_eq_true] at w
  exact w.1
def rowM (δ : St) (n : Nat) (p : Nat → Bool) (h : Int32) (fr to : Nat) (my : Nat → Nat → Bool) (f0 : Nat → Int32) (ρ : St) (m : Nat) : Prop :=
  sI ρ 85 (ctP p m) = nI (ctP (fun b => caF n fr to my m b f0) 72 + 1) ∧ (∀ b, b < 72 → caF n fr to my m b f0 = true → sI ρ (82 + ctP p m) (ctP (fun b => caF n fr to my m b f0) b) = nI b ∧ sI ρ (87 + ctP p m) (ctP (fun b => caF n fr to my m b f0) b) = ctF δ n h f0 m b) ∧
    sI ρ (82 + ctP p m) (ctP (fun b => caF n fr to my m b f0) 72) = -1 ∧ sI ρ (87 + ctP p m) (ctP (fun b => caF n fr to my m b f0) 72) = 0
/-- what follows the listing -/
def rstC (v B : Int32) (ρ : St) : Option (Int32 × St) := bd (f6_sumTops ρ 78) fun r84 t85 => (lt (wI t85 78 13 (-1 : Int32)) fun t88 => (if v = (0 : Int32) then f6_search_p181 t88 78 B else bd (f6_tryMill 6 t88 78 (0 : Int32)) fun r91 t92 => (f6_search_p181 t92 78 B)))
theorem lists_l {σ ρ0 : St} (L0 : Lay ρ0) (F0 : ∀ x, x ≤ 34 → sI ρ0 x = sI σ x) {n p q0 fr to : Nat} {tx : Nat → Nat} {h d k B v : Int32} {f0 : Nat → Int32} {my : Nat → Nat → Bool} (T : TPh σ n) (g : gXc ρ0 tx) (gk : gK ρ0 p q0) (t11 : to ≤ 11) (hft : fr ≤ to) (t3 : to ≤ fr + 3) (hn : sI σ 2 5 = nI n) (h14 : sI ρ0 78 14 = h) (h12 : sI ρ0 78 12 = nI (ctP (bitP B) n)) (w3 : ctP (bitP B) n ≤ 3)
    (hf0 : ∀ m, m < n → bitP B m = true → f0 m = -1) (h80 : ∀ m, m < n → bitP B m = true → sI ρ0 80 (ctP (bitP B) m) = nI m)
    (hmy : ∀ m b, m < n → b < 72 → (my m b = true ↔ ¬ dpF (sI ρ0 3 b) h < sI ρ0 (29 + m) 0 ∧ stdF ρ0 tx p m b d k &&& 3 = 0)) :
    ∀ (j m fuel : Nat) (ρ : St), m + j = n → j < fuel → Fr Wsl ρ0 ρ → (∀ q, q < n → sI ρ 92 q = f0 q) → (∀ q, q < m → bitP B q = true → rowM σ n (bitP B) h fr to my f0 ρ q) →
      ∃ ρ', f6_search_p135 fuel ρ 78 d k B (nI fr) (nI to) v (nI (ctP (bitP B) m)) = rstC v B ρ' ∧ Fr Wsl ρ0 ρ' ∧ (∀ q, q < n → sI ρ' 92 q = f0 q) ∧ ∀ q, q < n → bitP B q = true → rowM σ n (bitP B) h fr to my f0 ρ' q := by
  have n6 := T.2.1
  have hN := L0.2.2
  intro j
  induction j with
  | zero =>
    intro m fuel ρ hm hf F tr ro
    obtain ⟨fu, rfl, -⟩ := suc_of hf
    have e : m = n := by omega
    subst e
    have L := Lay_Fr F L0
    refine ⟨ρ, ?_, F, tr, ro⟩
    rw [f6_search_p135, gd_t (oL78 L), Fr_i F (by omega) (by unfold Wsl Wlh; omega), h12, if_neg (nI_nlt (Nat.le_refl _) (by omega))]
    rfl
  | succ j ih =>
    intro m fuel ρ hm hf F tr ro
    by_cases pm : bitP B m = true
    · obtain ⟨fu, rfl, -⟩ := suc_of hf
      have L := Lay_Fr F L0
      have l3 := ctP_lt (q := bitP B) (show m < n by omega) pm
      have kr : ∀ x q, x ≤ 153 → ¬ Wsl x q → sI ρ x q = sI ρ0 x q := fun x q h1 h2 => Fr_i F (by omega) h2
      have e34 : ∀ x, x ≤ 34 → sI ρ x = sI σ x := fun x hx => by rw [← F0 x hx]; exact funext fun q => kr x q (by omega) (by unfold Wsl Wlh; omega)
      have gX1 : gXc ρ tx := gXc_Fr F L0 (fun x q w => by unfold fpC at w; unfold Wsl Wlh; omega) g
      have gK1 : gK ρ p q0 := gK_Fr F L0 (fun a q h1 h2 => by unfold Wsl Wlh; omega) gk
      have st : ∀ b, stdF ρ tx p m b d k = stdF ρ0 tx p m b d k := fun b => std_Fr F L0 g (fun x q w => by
        rcases w with w | w | w | w
        · unfold Wsl Wlh; omega
        · unfold Wsl Wlh; omega
        · unfold Wsl Wlh; omega
        · unfold fpC at w; unfold Wsl Wlh; omega) (by omega) d k
      obtain ⟨ρ1, a1, a2, a3, a4, a5, a6, a7⟩ := list_s (m := m) (l := ctP (bitP B) m) (h := h) (f0 := f0) (my := my) (d := d) (k := k) L (rv_VT e34 T.1) n6 gX1 gK1 t11 hft t3 (by rw [e34 2 (by decide)]; exact hn) (by rw [kr _ _ (by omega) (by unfold Wsl Wlh; omega)]; exact h14) (by omega) (by omega) (hf0 m (by omega) pm) (fun b hb => by
        rw [st, kr 3 _ (by omega) (by unfold Wsl Wlh; omega), kr (29 + m) _ (by omega) (by unfold Wsl Wlh; omega)]
        exact hmy m b (by omega) hb) (by rw [kr _ _ (by omega) (by unfold Wsl Wlh; omega)]; exact h80 m (by omega) pm) tr
      have Fc : Fr Wsl ρ ρ1 := Fr_mo a2 (fun x q w => by
        unfold Wlc at w
        rcases w with w | w | w | w | w
        · exact Or.inl w
        · exact Or.inr (Or.inl w)
        · exact Or.inr (Or.inr (Or.inl (by omega)))
        · exact Or.inr (Or.inr (Or.inr (by omega)))
        · exact Or.inr (Or.inr (Or.inl (by omega))))
      have hNρ := L.2.2
      obtain ⟨ρ', b1, b2⟩ := ih (m + 1) fu ρ1 (by omega) (by omega) (Fr_tr F Fc) a3 (fun q hq pq => by
        by_cases e : q = m
        · rw [e]
          refine ⟨a7, fun b hb cb => ?_, a5, a6⟩
          have := a4 b hb cb
          refine ⟨this.1, this.2.trans ?_⟩
          unfold ctF
          exact rv_tq e34 n6 (by omega) (fun _ _ => rfl)
        · obtain ⟨r1, r2, r3, r4⟩ := ro q (by omega) pq
          have lt := ctP_lt (q := bitP B) (show q < m by omega) pq
          have kk : ∀ x i, (x = 85 ∧ i = ctP (bitP B) q ∨ x = 82 + ctP (bitP B) q ∨ x = 87 + ctP (bitP B) q) → sI ρ1 x i = sI ρ x i := fun x i hx => Fr_i a2 (by omega) (by unfold Wlc Wlh; omega)
          refine ⟨?_, fun b hb cb => ⟨?_, ?_⟩, ?_, ?_⟩
          · rw [kk _ _ (Or.inl ⟨rfl, rfl⟩)]; exact r1
          · rw [kk _ _ (Or.inr (Or.inl rfl))]; exact (r2 b hb cb).1
          · rw [kk _ _ (Or.inr (Or.inr rfl))]; exact (r2 b hb cb).2
          · rw [kk _ _ (Or.inr (Or.inl rfl))]; exact r3
          · rw [kk _ _ (Or.inr (Or.inr rfl))]; exact r4)
      refine ⟨ρ', ?_, b2⟩
      rw [f6_search_p135, gd_t (oL78 L), kr _ _ (by omega) (by unfold Wsl Wlh; omega), h12, if_pos (nI_lt l3 (by omega)), bd_s a1, lt_b, nI_1, ← ctP_t pm]
      exact b1
    · obtain ⟨ρ', b1, b2⟩ := ih (m + 1) fuel ρ (by omega) (by omega) F tr (fun q hq pq => by
        by_cases e : q = m
        · rw [e] at pq; exact absurd pq pm
        · exact ro q (by omega) pq)
      refine ⟨ρ', ?_, b2⟩
      rw [ctP_n pm] at b1
      exact b1
theorem end_s {σ : St} (L : Lay σ) {n : Nat} {B : Int32} {s : Int32 × (Nat → Int32)} (n6 : n ≤ 6) (h13 : sI σ 78 13 = s.1) (h93 : ∀ k, k < n → sI σ 93 k = s.2 k) : ∃ σ', f6_search_p181 σ 78 B = some (s.1, σ') ∧ Fr (fun x k => x = 78 ∧ k = 3 ∨ x = 79) σ σ' ∧ sI σ' 78 3 = (if s.1 < 0 then 0 else B) ∧ ∀ k, k < n → sI σ' 79 k = s.2 k := by
  have go : ∀ x0, ∃ σ', f6_search_p194 σ 78 x0 78 = some (s.1, σ') ∧ Fr (fun x k => x = 78 ∧ k = 3 ∨ x = 79) σ σ' ∧ sI σ' 78 3 = x0 ∧ ∀ k, k < n → sI σ' 79 k = s.2 k := fun x0 => by
    have L1 : Lay (wI σ 78 3 x0) := Lay_wI L
    obtain ⟨q1, q2, q3⟩ := copy6 (σ := wI σ 78 3 x0) (a := 93) (b := 79) (lL93 L1) (lL79 L1)
    refine ⟨wCp (wI σ 78 3 x0) 93 (ix 0) 79 (ix 0) (ix 6), ?_, Fr_cp (Fr_wI Fr_rf (Or.inl (Or.inl ⟨rfl, rfl⟩))) (Or.inl (fun k => Or.inr rfl)), ?_, fun k hk => ?_⟩
    · unfold f6_search_p194
      rw [gd_t (oL78 L), lt_b, gd_t (oL78 L1), lt_b, rL78_11 L1, gd_t nz_s, lt_b, rL78_2 L1, gd_t nz_s, gd_t (oL93 L1), gd_t (oL79 L1), gd_t q1, lt_b, q3 78 (by decide), sI_wk (by decide), h13]
    · rw [q3 78 (by decide), sI_w1]
    · rw [q2 k (by omega), sI_wo (by decide)]; exact h93 k hk
  unfold f6_search_p181
  rw [gd_t (oL78 L), h13]
  by_cases c : s.1 < 0
  · rw [if_pos c, if_pos c]; exact go 0
  · rw [if_neg c, if_neg c]; exact go B
