/-! TOLL -/
def tlF (δ : St) (n : Nat → Nat) (p m b s : Nat) (d sk some_ : Int32) : Int32 :=
  if lhA δ (txA δ n s d d) 259 259 (gbF δ (hgF δ p d d) m b d sk) < 0 then some_ / 16 else some_ * sI δ (txA δ n s d d + 4) (ix (lhA δ (txA δ n s d d) 259 259 (gbF δ (hgF δ p d d) m b d sk))) / sI δ (txA δ n s d d + 5) (ix (lhA δ (txA δ n s d d) 259 259 (gbF δ (hgF δ p d d) m b d sk)))
theorem tl_or {δ : St} {n : Nat → Nat} (g : gXc δ n) {s : Nat} (hs : s < 2) (d k : Int32) (e : Nat → Int32) : lhA δ (txA δ n s d k) 259 259 e = -1 ∨ ∃ C R r, TxC δ (txA δ n s d k) C R ∧ TxOk δ (txA δ n s d k) C R ∧ r < R ∧ lhA δ (txA δ n s d k) 259 259 e = nI r ∧ sI δ (txA δ n s d k + 2) r = 259 ∧ 0 < (sI δ (txA δ n s d k + 5) r).toInt := by
  have t := txA_k g hs d k
  generalize txA δ n s d k = a at t ⊢
  rcases t with rfl | ⟨C, R, c, ok⟩
  · exact Or.inl lhA_0
  · rcases lhA_or c 259 259 e with h | ⟨r, hr, h, h2⟩
    · exact Or.inl h
    · have h3 : sI δ (a + 2) r = 259 := by rcases h2 with h2 | h2 <;> exact h2
      exact Or.inr ⟨C, R, r, c, ok, hr, h, h3, (ok.2 r hr).2.2.2.2.2.2.1 h3⟩
theorem nz_pos {x : Int32} (h : 0 < x.toInt) : nzI x = true := by
  unfold nzI
  rw [Bool.not_eq_true', decide_eq_false_iff_not]
  intro e
  rw [e] at h
  exact absurd h (by decide)
theorem tollFor_s {σ : St} (L : Lay σ) {p q : Nat} (gk : gK σ p q) {n : Nat → Nat} (g : gXc σ n) {s m b : Nat} (hs : s < 2) (hm : m < 6) (hb : b < 72) (d sk some_ : Int32) : ∃ τ, f4_tollFor σ 35 some_ (nI s) sk (nI m) (nI b) d = some (tlF σ n p m b s d sk some_, τ) ∧ Fr Wlh σ τ := by
  obtain ⟨f1, v1⟩ := gbW_r (σ := σ) (h := hgF σ p d d) (m := m) (b := b) (d := d) (sk := 0)
  have gb := giveBoat_s L gk hm hb d d
  have L1 := Lay_Fr f1 L
  generalize gbW σ (hgF σ p d d) m b d 0 = σ1 at f1 v1 L1 gb
  have f2 : Fr Wlh σ (wI σ1 58 8 sk) := Fr_wI f1 (Or.inl (Or.inl rfl))
  have L2 : Lay (wI σ1 58 8 sk) := Lay_wI L1
  have v2 : ∀ j, j < 9 → sI (wI σ1 58 8 sk) 58 j = gbF σ (hgF σ p d d) m b d sk j := fun j hj => by
    by_cases c : j = 8
    · rw [c, sI_w1]; rfl
    · rw [sI_wk c, v1 j hj]
      unfold gbF
      have : j = 0 ∨ j = 1 ∨ j = 2 ∨ j = 3 ∨ j = 4 ∨ j = 5 ∨ j = 6 ∨ j = 7 := by omega
      rcases this with rfl | rfl | rfl | rfl | rfl | rfl | rfl | rfl <;> rfl
  have g2 := gXc_Fr f2 L (fun x k => lh_C) g
  have eA := (txA_Fr f2 L (fun x k => lh_C) n hs d d).1
  have t0 := txA_k g hs d d
  have t2 := txk_Fr f2 (fun x k => lh_X) t0
  obtain ⟨τ, w1, w2, -⟩ := hold_a L2 t2.1 259 259
  rw [lhA_cg t2.1 259 259 v2, (t2.2 _).1] at w1
  have fr := Fr_tr f2 w2
  refine ⟨τ, ?_, fr⟩
  unfold f4_tollFor tlF
  rw [gd_t (oL35 L), bd_s gb, lt_b, rL35_6 L1, gd_t nz_s, gd_t (oL58 L1), gd_t (inb_k8 (lL58 L1) (by decide) (by decide)), lt_b, show ix (8 : Int32) = 8 from rfl, bd_s (inForce_s L2 g2 hs d d), eA]
  rcases tl_or g hs d d (gbF σ (hgF σ p d d) m b d sk) with h1 | ⟨C, R, r, c, ok, hr, h1, h3, h5⟩
  · rw [h1] at w1
    rw [h1, if_pos (show (-1 : Int32) < 0 by decide)]
    by_cases h0 : txA σ n s d d = 0
    · rw [h0] at w1
      rw [if_pos h0, bd_s w1]
    · rw [if_neg h0, bd_s w1, if_pos (by decide)]
  · have hR := c.1.2.2.2.1
    have a153 := c.1.2.1
    have c' := TxC_Fr fr (fun k => lh_X (by omega)) c
    obtain ⟨⟨o, -, -, -, h6⟩, ⟨r0, r1, r2, r3, r4⟩, oq, lC, lR⟩ := c'
    have o4 : ob τ (txA σ n s d d + 4) 14 = true := oq 3 (by decide)
    have o5 : ob τ (txA σ n s d d + 5) 14 = true := oq 4 (by decide)
    have e4 : sI τ (txA σ n s d d + 4) r = sI σ (txA σ n s d d + 4) r := Fr_i fr (ob_spec (c.2.2.1 3 (by decide))).2.2 (lh_X (by omega))
    have e5 : sI τ (txA σ n s d d + 5) r = sI σ (txA σ n s d d + 5) r := Fr_i fr (ob_spec (c.2.2.1 4 (by decide))).2.2 (lh_X (by omega))
    rw [h1] at w1
    rw [h1, if_neg (show ¬ nI r < 0 from nI_pos (by omega)), ix_n (by omega), if_neg (show ¬ txA σ n s d d = 0 by omega), bd_s w1, if_neg (nI_pos (by omega)), gd_t o, lt_b, r4, gd_t (nz_t (by omega)), gd_t o5, gd_t (inb_n (lR 3 (by decide)) hr (by omega)), ix_n (by omega), e5, if_neg (show ¬ sI σ (txA σ n s d d + 5) r ≤ 0 by rw [t_le]; show ¬ _ ≤ (0 : Int); omega), lt_b, r3, gd_t (nz_t (by omega)), gd_t o4, gd_t (inb_n (lR 2 (by decide)) hr (by omega)), e4, gd_t (nz_pos h5)]
theorem tollOf_s {δ ρ : St} (L : Lay ρ) {nm p q : Nat} {n : Nat → Nat} (R : RR δ ρ nm p q n) {m b s o e : Nat} (hs : s < 2) (hm : m < nm) (hb : b < 72) (ho : o < 60) (hat : sI ρ 109 m = nI b) (h14 : sI ρ 101 14 = nI e) (h51 : sI ρ 101 51 = hgF δ p (nI e) (nI e)) (hsh : sI ρ 139 o = nI s) (some_ : Int32) : ∃ τ, f12_tollOf ρ 101 (nI m) (nI o) some_ = some (tlF δ n p m b s (nI e) (sI ρ 140 o) some_, τ) ∧ Fr Wla ρ τ := by
  have n6 := R.2.2.1.2.1
  have hN := L.2.2
  obtain ⟨τ1, a1, a2, a3⟩ := names_s L R.1.1 R.2.1 R.2.2.1 hm hb (hgF_hh R.1.2.1 (nI e) (nI e)) (nI e) (sI ρ 140 o)
  have f1 : Fr Wla ρ τ1 := Fr_mo a2 (fun _ _ => nm_la)
  have L1 := Lay_Fr a2 L
  have R1 := RR_la f1 L R
  obtain ⟨τ2, b1, b2⟩ := lastM L1 R1.1.2.2 R1.2.2.2.2 hs (nI e) (nI e) (one := 259) (oth := 259) (Or.inr (Or.inr (Or.inl rfl))) (Or.inr (Or.inr (Or.inl rfl))) _ a3
  rw [show kmF 259 = 3 by decide] at b1
  have L2 := Lay_Fr b2 L1
  have R2 := RR_la b2 L1 R1
  obtain ⟨n12, -, hv⟩ := R.1.2.2 s hs
  have tx := textOf_s L1 hs n12 R1.2.2.2.2 (nI e) (nI e)
  refine ⟨τ2, ?_, Fr_tr f1 b2⟩
  have k14 : sI τ1 101 14 = nI e := by rw [Fr_i f1 (by omega) (by unfold Wla; omega)]; exact h14
  have k139 : sI τ1 139 o = nI s := by rw [Fr_i f1 (by omega) (by unfold Wla; omega)]; exact hsh
  unfold f12_tollOf tlF
  rw [gd_t (oL101 L), lt_b, rL101_9 L, gd_t nz_s, gd_t (oL109 L), gd_t (inb_n (lL109 L) (by omega) (by decide)), lt_b, rL101_57 L, gd_t nz_s, gd_t (oL140 L), gd_t (inb_n (lL140 L) ho (by decide)), ix_n (k := m) (by omega), ix_n (k := o) (by omega), hat, h14, h51, bd_s a1, lt_b, rL101_56 L1, gd_t nz_s, gd_t (oL139 L1), gd_t (inb_n (lL139 L1) ho (by decide)), k139, k14, bd_s tx, bd_s b1]
  rcases tl_or R.1.2.2 hs (nI e) (nI e) (gbF δ (hgF δ p (nI e) (nI e)) m b (nI e) (sI ρ 140 o)) with h1 | ⟨C, R', r, c, ok, hr, h1, h3, h5⟩
  · rw [h1, if_pos rfl, if_pos (by decide)]
  · have hR := c.1.2.2.2.1
    have a153 := c.1.2.1
    rcases ifB_or n12 (δ := δ) (nI e) (nI e) with h | ⟨i, hi, h⟩
    · unfold txA at a153
      rw [h, if_pos (by decide)] at a153
      omega
    · have et : txA δ n s (nI e) (nI e) = sR δ 45 (12 * s + i) := by unfold txA; rw [h, if_neg (nI_pos (by omega)), ix_n (by omega)]
      have M := ((R2.2.2.2.2 s hs).2 i hi).2.2 C R' (by rw [← et]; exact c)
      have e20 : (20 : Int32) * nI (12 * s + i) + nI r = nI (20 * (12 * s + i) + r) := by
        have : (20 : Int32) * nI (12 * s + i) = nI (20 * (12 * s + i)) := pk_mul 20 _
        rw [this, nI_add]
      have rA := (M.2.2.2 r hr).2.2.2.1 (by rw [← et]; exact h3)
      rw [← et] at rA
      rw [h1, if_neg (nI_m1 (by omega)), if_neg (nI_pos (by omega)), h, ti_n (by omega), lt_b, rL101_27 L2, gd_t nz_s, gd_t (oL124 L2), e20, gd_t (inb_n (lL124 L2) (by omega) (by decide)), lt_b, rL101_28 L2, gd_t nz_s, gd_t (oL125 L2), gd_t (inb_n (lL125 L2) (by omega) (by decide)), ix_n (k := 20 * (12 * s + i) + r) (by omega), ix_n (k := r) (by omega), rA.1, rA.2, gd_t (nz_pos h5)]
