/-! RULES: what reading a tape gives, whatever state the reference is in -/
theorem read_u {σ : St} {s : Nat} (L : Lay σ) (G : gG σ) (hs : s ≤ 400) (B : Byt (sI σ 100) s) (T : Tpm (sI σ 100) s σ) :
    ∃ v σ', f7_read σ 46 100 (nI s) = some (v, σ') ∧ Fr Wra σ σ' ∧
      ((v = 0 ∧ ∃ c r, c ≤ 400 ∧ r ≤ 20 ∧ sI σ' 52 5 = nI c ∧ sI σ' 52 6 = nI r ∧ TxOk σ' 52 c r ∧ sI σ' 46 12 = -1 ∧ ∀ sh fr ρ, Lay ρ → Tpm (sI σ 100) s ρ → ∃ ρ', Lay ρ' ∧ Fr Wrm ρ ρ' ∧ (bd (f12_next (rs0 ρ) 101) fun r42 t43 => f12_rules_p74 FU t43 101 sh fr) = f12_rules_p95 ρ' 101 sh fr ∧ sI ρ' 101 40 = 0 ∧ sI ρ' 121 24 = nI c ∧ sI ρ' 122 24 = nI r ∧ (∀ i, i < c → sI ρ' 120 (10080 + i) = mpF (sI σ' 53 i)) ∧
          ∀ i, i < r → sI ρ' 123 (480 + i) = kmF (sI σ' 54 i) ∧ sI ρ' 126 (480 + i) = nI (stF σ' 52 i) ∧ sI ρ' 127 (480 + i) = nI (enF σ' 52 i) ∧ (sI σ' 54 i = 259 → sI ρ' 124 (480 + i) = sI σ' 56 i ∧ sI ρ' 125 (480 + i) = sI σ' 57 i) ∧ (sI σ' 54 i = 261 → sI ρ' 124 (480 + i) = sI σ' 56 i)) ∨
       (∃ F, 1 ≤ F ∧ F ≤ 4 ∧ v = nI F ∧ ∀ sh fr ρ, Lay ρ → Tpm (sI σ 100) s ρ → ∃ ρ', Lay ρ' ∧ Fr Wrm ρ ρ' ∧ (bd (f12_next (rs0 ρ) 101) fun r42 t43 => f12_rules_p74 FU t43 101 sh fr) = f12_rules_p95 ρ' 101 sh fr ∧ sI ρ' 101 40 = nI F ∧ sI ρ' 101 41 = sI σ' 46 12)) := by
  obtain ⟨σ', ρ0, f1, -, -, w⟩ := read_s L L G hs B T 0 0
  rcases w with ⟨N, k, c, l, r, a1, a2, a3, a4, a5, -⟩ | ⟨F, a1, a2, a3, a4, -⟩
  · refine ⟨0, σ', a1, f1, Or.inl ⟨rfl, c, r, a4, a5, a2.2.1.2.2.2.2.2.2.1, a3.2.2.2.1, a3.1, a2.2.1.2.2.2.2.2.2.2.2, fun sh fr ρ M TT => ?_⟩⟩
    obtain ⟨σ2, ρ2, g1, g2, g3, w2⟩ := read_s L M G hs B TT sh fr
    rcases w2 with ⟨N2, k2, c2, l2, r2, b1, b2, b3, b4, b5, b6⟩ | ⟨F, b1, b2, b3, -⟩
    · rw [a1] at b1
      have e : σ' = σ2 := congrArg Prod.snd (Option.some.inj b1)
      subst e
      have ec : c = c2 := (nI_eq (by omega) (by omega)).mp (a2.2.1.2.2.2.2.2.2.1.symm.trans b2.2.1.2.2.2.2.2.2.1)
      have er : r = r2 := (nI_eq (by omega) (by omega)).mp (a3.2.2.2.1.symm.trans b3.2.2.2.1)
      subst ec er
      exact ⟨ρ2, b2.2.2.1.1, g2, g3, b2.2.2.1.2.2.2.1, b2.2.2.1.2.2.2.2.2.2, b6, b2.2.2.2.2, b3.2.2.2.2⟩
    · rw [a1] at b3
      have e : (0 : Int32) = nI F := congrArg Prod.fst (Option.some.inj b3)
      exact absurd e.symm (nI_ne0 (by omega) (by omega))
  · refine ⟨nI F, σ', a3, f1, Or.inr ⟨F, a1, a2, rfl, fun sh fr ρ M TT => ?_⟩⟩
    obtain ⟨σ2, ρ2, g1, g2, g3, w2⟩ := read_s L M G hs B TT sh fr
    rcases w2 with ⟨N2, k2, c2, l2, r2, b1, -⟩ | ⟨F2, b1, b2, b3, b4, b5⟩
    · rw [a3] at b1
      have e : nI F = (0 : Int32) := congrArg Prod.fst (Option.some.inj b1)
      exact absurd e (nI_ne0 (by omega) (by omega))
    · rw [a3] at b3
      have e : σ' = σ2 := congrArg Prod.snd (Option.some.inj b3)
      have eF : nI F = nI F2 := congrArg Prod.fst (Option.some.inj b3)
      subst e
      obtain ⟨⟨-, M2⟩, F3, p, -, -, -, c4, c5, c6, c7⟩ := b4
      exact ⟨ρ2, M2, g2, g3, by rw [b5, eF], by rw [c7, c5]⟩
/-- one text more -/
def upn (n : Nat → Nat) (s q : Nat) : Nat := if q = s then n q + 1 else n q
def Wkp (x k : Nat) : Prop := x = 45 ∨ 60 ≤ x ∧ x ≤ 67
theorem keep_s {σ : St} {n : Nat → Nat} {s c r : Nat} (L : Lay σ) (g : gXc σ n) (hs : s < 2) (hn : n s < 12) (hc : c ≤ 400) (hr : r ≤ 20) (h5 : sI σ 52 5 = nI c) (h6 : sI σ 52 6 = nI r) (ok : TxOk σ 52 c r) (v2 v3 : Int32) :
    ∃ τ, f4_keep σ 35 (nI s) v2 v3 = some (nI r, τ) ∧ Fr Wkp σ τ ∧ sN τ = sN σ + 6 ∧ sU τ = sU σ + (7 + c + 4 * r) ∧ gXc τ (upn n s) ∧ sR τ 45 (12 * s + n s) = sN σ + 1 ∧ TxC τ (sN σ + 1) c r ∧ TxS σ τ 52 (sN σ + 1) c r ∧
      sI τ (61 + 4 * s) (n s) = v2 ∧ sI τ (62 + 4 * s) (n s) = v3 ∧ ∀ s' i, s' < 2 → i < n s' → sR τ 45 (12 * s' + i) = sR σ 45 (12 * s' + i) ∧ sI τ (61 + 4 * s') i = sI σ (61 + 4 * s') i ∧ sI τ (62 + 4 * s') i = sI σ (62 + 4 * s') i := by
  have hN := L.2.2
  obtain ⟨-, e3, -⟩ := g s hs
  obtain ⟨r44, ib, lb⟩ := lay_bk L hs
  have ob1 := (lay_book L ib).1
  have tl := tell_s L ib e3 (by rw [lb]; omega) v2 (nI (12 * s + n s)) v3
  rw [if_pos (by rw [lb]; exact hn)] at tl
  obtain ⟨σb, hσb⟩ : ∃ σb, wI (wI (wI (wI σ (60 + 4 * s + 1) (n s) v2) (60 + 4 * s + 2) (n s) v3) (60 + 4 * s + 3) (n s) (nI (12 * s + n s))) (60 + 4 * s) 3 (nI (n s + 1)) = σb := ⟨_, rfl⟩
  have fb : Fr Wkp σ σb := by
    rw [← hσb]
    refine Fr_wI (Fr_wI (Fr_wI (Fr_wI Fr_rf ?_) ?_) ?_) ?_ <;> exact Or.inl (by unfold Wkp; omega)
  have nb : sN σb = sN σ ∧ sU σb = sU σ ∧ sR σb = sR σ := by rw [← hσb]; exact ⟨rfl, rfl, rfl⟩
  have Lb := Lay_Fr fb L
  rw [hσb] at tl
  have rb : ∀ x k, sI σb x k = if x = 60 + 4 * s ∧ k = 3 then nI (n s + 1) else if x = 63 + 4 * s ∧ k = n s then nI (12 * s + n s) else if x = 62 + 4 * s ∧ k = n s then v3 else if x = 61 + 4 * s ∧ k = n s then v2 else sI σ x k := fun x k => by
    rw [← hσb, sI_wI, sI_wI, sI_wI, sI_wI, show 60 + 4 * s + 1 = 61 + 4 * s by omega, show 60 + 4 * s + 2 = 62 + 4 * s by omega, show 60 + 4 * s + 3 = 63 + 4 * s by omega]
  have kb : ∀ x, 52 ≤ x → x ≤ 57 → ∀ k, sI σb x k = sI σ x k := fun x h1 h2 k => by
    rw [rb, if_neg (by omega), if_neg (by omega), if_neg (by omega), if_neg (by omega)]
  obtain ⟨τ, a1, a2, a3, a4, a5, a6⟩ := copy_s Lb hc hr (by rw [kb _ (by omega) (by omega)]; exact h5) (by rw [kb _ (by omega) (by omega)]; exact h6)
  have Lt := Lay_Fr a2 Lb
  rw [nb.1] at a1 a3 a5 a6
  rw [nb.2.1] at a4
  have f2 : Fr Wkp σ τ := Fr_tr fb (Fr_mo a2 (fun _ _ h => Or.inl h.1))
  have kt : ∀ x k, x ≤ 153 → x ≠ 45 → sI τ x k = sI σb x k := fun x k h1 h2 => Fr_i a2 (by omega) (by unfold Wal; omega)
  have f3 : Fr Wkp σ (wR τ 45 (12 * s + n s) (sN σ + 1)) := Fr_wR f2 (Or.inl ⟨rfl, Or.inl rfl⟩)
  have L3 := Lay_Fr f3 L
  have cC : TxC (wR τ 45 (12 * s + n s) (sN σ + 1)) (sN σ + 1) c r := by
    obtain ⟨c1, ⟨d0, d1, d2, d3, d4⟩, c3, c4, c5⟩ := a5
    have e : ∀ q, sR (wR τ 45 (12 * s + n s) (sN σ + 1)) (sN σ + 1) q = sR τ (sN σ + 1) q := fun q => if_neg (fun w => absurd w.1 (by omega))
    exact ⟨c1, ⟨by rw [e]; exact d0, by rw [e]; exact d1, by rw [e]; exact d2, by rw [e]; exact d3, by rw [e]; exact d4⟩, c3, c4, c5⟩
  have S : TxS σ (wR τ 45 (12 * s + n s) (sN σ + 1)) 52 (sN σ + 1) c r :=
    ⟨fun i hi => by rw [← kb 53 (by omega) (by omega)]; exact a6.1 i hi, fun q hq i hi => by rw [← kb (52 + 2 + q) (by omega) (by omega)]; exact a6.2 q hq i hi⟩
  have e12 : nI s * 12 + nI (n s) = nI (12 * s + n s) := by
    have : nI s * 12 = nI (s * 12) := pk_mul s 12
    rw [this, nI_add, Nat.mul_comm]
  have q45 : ∀ k, k < 24 → sR (wR τ 45 (12 * s + n s) (sN σ + 1)) 45 k = if k = 12 * s + n s then sN σ + 1 else sR σ 45 k := fun k hk => by
    show (if 45 = 45 ∧ k = 12 * s + n s then sN σ + 1 else sR τ 45 k) = _
    by_cases q : k = 12 * s + n s
    · rw [if_pos ⟨rfl, q⟩, if_pos q]
    · rw [if_neg (fun w => q w.2), if_neg q, (a2.2.2.1 45 k (by omega) (by unfold Wal; omega)).2.2, nb.2.2]
  have kw : ∀ x k, 60 ≤ x → x ≤ 67 → sI (wR τ 45 (12 * s + n s) (sN σ + 1)) x k = sI σb x k := fun x k h1 h2 => kt x k (by omega) (by omega)
  have gn : gXc (wR τ 45 (12 * s + n s) (sN σ + 1)) (upn n s) := by
    intro s' hs'
    obtain ⟨n12, w3, hv⟩ := g s' hs'
    refine ⟨?_, ?_, fun i hi => ?_⟩
    · unfold upn
      by_cases q : s' = s
      · rw [if_pos q, q]; omega
      · rw [if_neg q]; exact n12
    · rw [kw _ _ (by omega) (by omega), rb]
      unfold upn
      by_cases q : s' = s
      · rw [if_pos q, q, if_pos ⟨rfl, rfl⟩]
      · rw [if_neg q, if_neg (by omega), if_neg (by omega), if_neg (by omega), if_neg (by omega)]; exact w3
    · rw [kw _ _ (by omega) (by omega), rb, if_neg (by omega)]
      by_cases new : s' = s ∧ i = n s
      · obtain ⟨rfl, rfl⟩ := new
        rw [if_pos ⟨rfl, rfl⟩, q45 _ (by omega), if_pos rfl]
        exact ⟨rfl, c, r, cC, TxS_Ok S ok⟩
      · have hi' : i < n s' := by
          unfold upn at hi
          by_cases q : s' = s
          · rw [if_pos q] at hi
            have : i ≠ n s := fun w => new ⟨q, w⟩
            rw [q] at hi ⊢
            omega
          · rw [if_neg q] at hi; exact hi
        have ne : ¬ 12 * s' + i = 12 * s + n s := fun w => new (by
          have : s' = s := by omega
          subst this
          exact ⟨rfl, by omega⟩)
        obtain ⟨v1, C, R, tc, to⟩ := hv i hi'
        have a153 := tc.1.2.1
        rw [if_neg (fun w => new ⟨by omega, w.2⟩), if_neg (by omega), if_neg (by omega), q45 _ (by omega), if_neg ne]
        exact ⟨v1, C, R, TxC_Fr f3 (fun k => by unfold Wkp; omega) tc, TxOk_cg (fun q k hq => Fr_i f3 (ob_spec (tc.2.2.1 q hq)).2.2 (by unfold Wkp; omega)) to⟩
  refine ⟨wR τ 45 (12 * s + n s) (sN σ + 1), ?_, f3, a3, a4, gn, by rw [q45 _ (by omega), if_pos rfl], cC, S, ?_, ?_, fun s' i hs' hi => ⟨?_, ?_, ?_⟩⟩
  · have h6t : sI (wR τ 45 (12 * s + n s) (sN σ + 1)) 52 6 = nI r := by
      show sI τ 52 6 = _
      rw [kt _ _ (by omega) (by omega), kb _ (by omega) (by omega)]; exact h6
    unfold f4_keep f4_keep_p59
    rw [gd_t (oL35 L), lt_b, rL35_3 L, gd_t nz_s, gd_t (oL44 L), gd_t (inb_n (lL44 L) hs (by decide)), lt_b, ix_n (k := s) (by omega), r44, gd_t (nz_t (by omega)), gd_t ob1, e3, e12, lt_b, lt_b, rL35_4 L, gd_t nz_s, gd_t (oL45 L), lL45 L, if_pos (show nI (12 * s + n s) < Int32.ofNat 24 from nI_lt (b := 24) (by omega) (by decide)), bd_s tl, if_neg (show ¬ (1 : Int32) = 0 by decide), lt_b, rL35_4 Lb, gd_t nz_s, lt_b, rL35_5 Lb, gd_t nz_s, gd_t (oL46 Lb), lt_b, rL46_5 Lb, gd_t nz_s, gd_t (oL52 Lb)]
    rw [nb.1] at *
    rw [bd_s a1, gd_t (oL45 Lt), gd_t (inb_n (lL45 Lt) (by omega) (by decide)), gd_t a5.1.1, lt_b, ix_n (k := 12 * s + n s) (by omega), gd_t (oL35 L3), lt_b, rL35_5 L3, gd_t nz_s, gd_t (oL46 L3), lt_b, rL46_5 L3, gd_t nz_s, gd_t (oL52 L3), h6t]
  · rw [kw _ _ (by omega) (by omega), rb, if_neg (by omega), if_neg (by omega), if_neg (by omega), if_pos ⟨rfl, rfl⟩]
  · rw [kw _ _ (by omega) (by omega), rb, if_neg (by omega), if_neg (by omega), if_pos ⟨rfl, rfl⟩]
  · rw [q45 _ (by have := (g s' hs').1; omega), if_neg (by have := (g s' hs').1; intro w; have : s' = s := (by omega); subst this; omega)]
  · rw [kw _ _ (by omega) (by omega), rb, if_neg (by omega), if_neg (by omega), if_neg (by omega), if_neg (fun w => by have : s' = s := (by omega); subst this; omega)]
  · rw [kw _ _ (by omega) (by omega), rb, if_neg (by omega), if_neg (by omega), if_neg (fun w => by have : s' = s := (by omega); subst this; omega), if_neg (by omega)]
