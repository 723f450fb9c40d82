/-! DAY -/
def Wdy (x k : Nat) : Prop := x = 1 ∧ k = 8 ∨ x = 6 ∨ x = 69 ∨ x = 68 ∧ (k = 2 ∨ k = 3 ∨ k = 4 ∨ k = 5) ∨ Wgk x k ∨ Wym x k
theorem yc_dy {nm x k : Nat} (h : Wyc nm x k) : Wdy x k := by
  unfold Wyc at h
  unfold Wdy
  rcases h with h | h | h | h | h
  · exact Or.inl h
  · exact Or.inr (Or.inl h.1)
  · exact Or.inr (Or.inr (Or.inl h))
  · exact Or.inr (Or.inr (Or.inr (Or.inl h)))
  · exact Or.inr (Or.inr (Or.inr (Or.inr (Or.inl h))))
theorem ym_dy {x k : Nat} (h : Wym x k) : Wdy x k := Or.inr (Or.inr (Or.inr (Or.inr (Or.inr h))))
theorem SD_of {σ ρ : St} (L : Lay σ) {nm e p q ro v : Nat} {n : Nat → Nat} (gt : gT σ) (gb : gB σ) (g : gM σ nm e) (hd : gD σ e) (gk : gKK σ p q) (x : gX σ n) (go : gO σ ro) (ge : gE σ v) (gs : gS σ) (f : Fr (Wyc nm) σ ρ) : SD nm p q ro e n σ ρ := by
  have hN := L.2.2
  have km : ∀ x k, 100 ≤ x → x ≤ 153 → sI ρ x k = sI σ x k := fun x k h1 h2 => Fr_i f (by omega) (by unfold Wyc Wgk; omega)
  have ro60 := go.1
  have n6 := g.ri.2.1
  refine ⟨⟨L, RiV_Fr f (fun a k q => by unfold Wyc Wgk; omega) (RiV_0 L g gt gb), RR_Fr f L (fun x k q => by unfold Wyc Wgk; omega) (gM_RR gb g gk x)⟩, ⟨g.sz, fun m hm => by rw [km 109 m (by omega) (by omega)]; exact g.li m hm, g.lo⟩, ⟨⟨ro60, ⟨go.2.1.1, by rw [km 101 55 (by omega) (by omega)]; exact go.2.1.2⟩, fun i hi => ?_, go.2.2.2⟩, ⟨v, ge.1, ge.2.1.1, by rw [km 101 49 (by omega) (by omega)]; exact ge.2.1.2, fun i hi => by rw [km 136 i (by omega) (by omega)]; exact ge.2.2 i hi⟩⟩, fun s hs => by rw [km 137 s (by omega) (by omega)]; exact gs s hs, ⟨hd.1, by rw [km 101 14 (by omega) (by omega)]; exact hd.2.1⟩, fun m hm => Int.le_trans (by decide) (g.rg m hm).2.2.2.2.1, g.wr⟩
  rw [km 139 i (by omega) (by omega), km 140 i (by omega) (by omega), km 141 i (by omega) (by omega), km 142 i (by omega) (by omega), km 143 i (by omega) (by omega)]
  exact go.2.2.1 i hi
theorem day_q {σ : St} (L : Lay σ) {nm e p q ro v : Nat} {n : Nat → Nat} (gt : gT σ) (gb : gB σ) (g : gM σ nm e) (hd : gD σ e) (gk : gKK σ p q) (x : gX σ n) (go : gO σ ro) (ge : gE σ v) (gs : gS σ) : ∃ r σ1 τ e' v', f11_day σ 1 = some (r, σ1) ∧ f12_day σ1 101 = some (r, τ) ∧ Fr Wdy σ τ ∧ gM τ nm e' ∧ gD τ e' ∧ gO τ ro ∧ gE τ v' := by
  have hN := L.2.2
  have n6 := g.ri.2.1
  have ro60 := go.1
  have e999 := hd.2.2
  by_cases he : e ≤ 998
  · obtain ⟨σ1, -, a1, -⟩ := day_l (SD_of L gt gb g hd gk x go ge gs (ρ := σ) Fr_rf) he
    have fσ : Fr (Wyc nm) σ σ1 := by
      obtain ⟨σ1', -, a1', -, -, -, -, -, f, -⟩ := day_l (SD_of L gt gb g hd gk x go ge gs (ρ := σ) Fr_rf) he
      rw [a1] at a1'
      have : σ1 = σ1' := congrArg Prod.snd (Option.some.inj a1')
      rw [this]; exact f
    obtain ⟨σ2, τ, b1, b2, RV, ⟨sz, li, lo⟩, ⟨O, ⟨w, w0, w1, w2, w3⟩⟩, ⟨d1, d2⟩, f1, f2, nw, wr⟩ := day_l (SD_of L gt gb g hd gk x go ge gs fσ) he
    rw [a1] at b1
    have e12 : σ1 = σ2 := congrArg Prod.snd (Option.some.inj b1)
    subst e12
    have L1 := Lay_Fr f1 L
    have hN1 := L1.2.2
    have kc : ∀ x k, x ≤ 100 → sI τ x k = sI σ1 x k := fun x k h1 => Fr_i f2 (by omega) (by unfold Wym Wgr; omega)
    have k0 : ∀ x k, x ≤ 153 → ¬ Wyc nm x k → sI σ1 x k = sI σ x k := fun x k h1 h2 => Fr_i f1 (by omega) h2
    have e6 : sI τ 6 = sI σ1 6 := funext fun k => kc _ _ (by omega)
    refine ⟨nI (e + 1), σ1, τ, e + 1, w, a1, b2, Fr_tr (Fr_mo f1 (fun _ _ => yc_dy)) (Fr_mo f2 (fun _ _ => ym_dy)), ⟨?_, ⟨RV.2.2.2.2.2.1, n6, fun m hm => ?_⟩, fun m hm => ?_, by rw [e6]; exact lo, fun m hm => ?_, fun m h1 h2 => ?_, fun m hm => ?_⟩, ⟨by rw [kc 1 8 (by omega)]; exact d1, d2, by omega⟩, ⟨ro60, ⟨by rw [kc 70 9 (by omega)]; exact O.2.1.1, O.2.1.2⟩, fun i hi => ?_, fun i h1 h2 => by rw [kc 76 i (by omega)]; exact O.2.2.2 i h1 h2⟩, w0, ⟨by rw [kc 68 2 (by omega)]; exact w1, w2⟩, fun i hi => by rw [kc 69 i (by omega)]; exact w3 i hi⟩
    · rw [kc 2 5 (by omega)]; exact sz
    · rw [kc (29 + m) 0 (by omega), kc (29 + m) 1 (by omega), kc (29 + m) 2 (by omega), kc (29 + m) 3 (by omega), kc (29 + m) 4 (by omega), kc (29 + m) 5 (by omega), kc (29 + m) 6 (by omega)]
      exact RV.2.2.2.2.2.2.2 m hm
    · rw [e6]; exact li m hm
    · rw [kc (29 + m) 0 (by omega), kc (29 + m) 1 (by omega), kc (29 + m) 2 (by omega), k0 (29 + m) 0 (by omega) (by unfold Wyc Wgk; omega), k0 (29 + m) 1 (by omega) (by unfold Wyc Wgk; omega), k0 (29 + m) 2 (by omega) (by unfold Wyc Wgk; omega)]
      exact g.rg m hm
    · have u := nw m h1 h2
      rw [kc (29 + m) 3 (by omega), kc (29 + m) 4 (by omega), kc (29 + m) 5 (by omega), kc (29 + m) 6 (by omega), kc 6 m (by omega), (u 3).1, (u 4).1, (u 5).1, (u 6).1, k0 6 m (by omega) (by unfold Wyc Wgk; omega), (u 0).2.1, (u 0).2.2.1, (u 0).2.2.2, k0 110 m (by omega) (by unfold Wyc Wgk; omega), k0 111 m (by omega) (by unfold Wyc Wgk; omega), k0 112 m (by omega) (by unfold Wyc Wgk; omega)]
      exact g.nw m h1 h2
    · rw [kc (29 + m) 3 (by omega)]; exact wr m hm
    · rw [kc 73 i (by omega), kc 74 i (by omega), kc 75 i (by omega), kc 76 i (by omega), kc 77 i (by omega)]
      exact O.2.2.1 i hi
  · have ee : e = 999 := by omega
    have f0 : Fr W0 σ (wI σ 101 0 0) := Fr0
    refine ⟨-1, σ, wI σ 101 0 0, e, v, ?_, ?_, Fr_mo f0 (fun x k h => ym_dy (Or.inl ⟨h.1, Or.inl h.2⟩)), gM0 L g, gD_Fr f0 L (fun a k h q => by unfold W0 at q; omega) hd, gO0 L go, gE_Fr f0 L (fun a k h q => by unfold fpE at h; unfold W0 at q; omega) ge⟩
    · unfold f11_day
      rw [gd_t (oL1 L), hd.1, if_neg (show ¬ nI e < 999 from nI_nlt (b := 999) (by omega) (by omega))]
    · unfold f12_day
      rw [gd_t (oL101 L), lt_b, sI_wk (by decide), hd.2.1, if_pos (show nI e = 999 by rw [ee]; rfl)]
