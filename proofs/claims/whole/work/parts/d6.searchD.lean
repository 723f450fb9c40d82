/-! THE CLASS'S SEARCH, put together -/
def icB (x : Int32) : Int32 := if x = 1 then 1 else 0
def f0B (σ : St) (B : Int32) (m : Nat) : Int32 := if bitP B m = true then -1 else sI σ 6 m
theorem searchC_s {σ : St} (L : Lay σ) {n p q0 fr to : Nat} {tx : Nat → Nat} {d k B : Int32} {wy : Nat → Nat} {my : Nat → Nat → Bool} (T : TPh σ n) (hn : sI σ 2 5 = nI n) (lo : Lf n (sI σ 6)) (g : gXc σ tx) (gk : gK σ p q0) (t11 : to ≤ 11) (hft : fr ≤ to) (t3 : to ≤ fr + 3) (w3 : ctP (bitP B) 6 ≤ 3) (hB : ∀ m, n ≤ m → m < 6 → ¬ bitP B m = true)
    (hwy : ∀ q, wayF σ tx p q d k = nI (wy q) ∧ wy q ≤ 6) (hmy : ∀ m b, m < n → b < 72 → (my m b = true ↔ ¬ dpF (sI σ 3 b) (hgF σ p d k) < sI σ (29 + m) 0 ∧ stdF σ tx p m b d k &&& 3 = 0)) :
    ∃ σ', f6_search σ 78 d k B (nI fr) (nI to) = some ((RM (wgF σ n (bitP B) (hgF σ p d k) (icB (icF σ q0 d k)) fr to wy) (bitP B) (caF n fr to my) n 0 (f0B σ B) (-1, sI σ 93)).1, σ') ∧ Fr Wse σ σ' ∧
      sI σ' 78 3 = (if (RM (wgF σ n (bitP B) (hgF σ p d k) (icB (icF σ q0 d k)) fr to wy) (bitP B) (caF n fr to my) n 0 (f0B σ B) (-1, sI σ 93)).1 < 0 then 0 else B) ∧
      ∀ q, q < n → sI σ' 79 q = (RM (wgF σ n (bitP B) (hgF σ p d k) (icB (icF σ q0 d k)) fr to wy) (bitP B) (caF n fr to my) n 0 (f0B σ B) (-1, sI σ 93)).2 q := by
  have n6 := T.2.1
  have hN := L.2.2
  have cn : ctP (bitP B) 6 = ctP (bitP B) n := ctP_gap n6 (fun q a b => hB q a b)
  -- height and ice
  obtain ⟨h, hh⟩ : ∃ h, hgF σ p d k = h := ⟨_, rfl⟩
  obtain ⟨ice, hi⟩ : ∃ ice, icB (icF σ q0 d k) = ice := ⟨_, rfl⟩
  rw [hh, hi]
  have L1 : Lay (wI σ 78 14 h) := Lay_wI L
  have F1 : Fr Wse σ (wI σ 78 14 h) := Fr_wI Fr_rf (Or.inl (by unfold Wse; omega))
  have gk1 := gK_Fr F1 L (fun a q h1 h2 => by unfold Wse Wlh; omega) gk
  have i1 : icF (wI σ 78 14 h) q0 d k = icF σ q0 d k := (hgF_Fr F1 L (fun a q h1 h2 => by unfold Wse Wlh; omega) p q0 d k).2
  obtain ⟨σ1, hσ1⟩ : ∃ σ1, wI (wI (wI σ 78 14 h) 78 15 ice) 78 12 0 = σ1 := ⟨_, rfl⟩
  have L15 : Lay (wI (wI σ 78 14 h) 78 15 ice) := Lay_wI L1
  have F2 : Fr Wse σ σ1 := by
    rw [← hσ1]
    refine Fr_wI (Fr_wI F1 ?_) ?_ <;> exact Or.inl (by unfold Wse; omega)
  have L2 := Lay_Fr F2 L
  have r78 : sI σ1 78 12 = nI 0 ∧ sI σ1 78 14 = h ∧ sI σ1 78 15 = ice := by
    rw [← hσ1]
    refine ⟨by rw [sI_w1]; rfl, by rw [sI_wk (by decide), sI_wk (by decide), sI_w1], by rw [sI_wk (by decide), sI_w1]⟩
  -- mills chosen
  obtain ⟨σ2, c1, c2, c3, c4, -, c6, -⟩ := choose_l w3 6 0 FU σ1 (by omega) (by unfold FU; omega) L2 r78.1
  have F3 : Fr Wse σ σ2 := Fr_tr F2 (Fr_mo c2 (fun x q w => by unfold Wch at w; unfold Wse; rcases w with w | w | w; exact Or.inr (Or.inr (Or.inr (Or.inr (Or.inr (by omega))))); exact Or.inr (Or.inr (Or.inr (Or.inl w))); exact Or.inr (Or.inl (by omega))))
  have L3 := Lay_Fr F3 L
  have k3 : ∀ x q, x ≤ 153 → ¬ Wse x q → sI σ2 x q = sI σ x q := fun x q h1 h2 => Fr_i F3 (by omega) h2
  have kc : ∀ x q, x ≤ 153 → ¬ Wch x q → sI σ2 x q = sI σ1 x q := fun x q h1 h2 => Fr_i c2 (by have := L2.2.2; omega) h2
  have tr2 : ∀ q, q < n → sI σ2 92 q = f0B σ B q := fun q hq => by
    rw [c4 q (by omega) (by omega)]
    unfold f0B
    rw [show sI σ1 6 q = sI σ 6 q from Fr_i F2 (by omega) (by unfold Wse Wlh; omega)]
  have g3 : gXc σ2 tx := gXc_Fr F3 L (fun x q w => by unfold fpC at w; unfold Wse Wlh; omega) g
  have gk3 := gK_Fr F3 L (fun a q h1 h2 => by unfold Wse Wlh; omega) gk
  have wf : ∀ q, wayF σ2 tx p q d k = wayF σ tx p q d k := fun q => way_Fr F3 L g (fun x q w => by
    rcases w with w | w
    · unfold Wse Wlh; omega
    · unfold fpC at w; unfold Wse Wlh; omega) p q d k
  have s2 : sI σ2 2 5 = nI n := by rw [k3 _ _ (by omega) (by unfold Wse Wlh; omega)]; exact hn
  -- ways
  obtain ⟨σ3, v, d1, d2, d3, -, d5⟩ := ways_l (fr := fr) (to := to) (B := B) (f0 := f0B σ B) (h := h) L3 n6 g3 gk3 t11 s2 (by rw [kc _ _ (by omega) (by unfold Wch; omega)]; exact r78.2.1) tr2 (fun q => by rw [wf]; exact hwy q) (to + 1 - fr) fr FU 1 σ2 (by omega) (by unfold FU; omega) (Nat.le_refl _) Fr_rf
  have e342 : ∀ x, x ≤ 34 → sI σ2 x = sI σ x := fun x hx => funext fun q => k3 x q (by omega) (by unfold Wse Wlh; omega)
  have opq : ∀ q, opF σ2 n (f0B σ B) q h = opF σ n (f0B σ B) q h := fun q => rv_op e342 (fun _ _ => rfl)
  simp only [opq] at d5
  have L4 := Lay_Fr d2 L3
  have F4 : Fr Wse σ σ3 := Fr_tr F3 (Fr_mo d2 (fun x q w => by unfold Wwy at w; unfold Wse; rcases w with w | w; exact Or.inl w; exact Or.inr (Or.inr (Or.inr (Or.inr (Or.inr (by omega)))))))
  have kw : ∀ x q, x ≤ 153 → ¬ Wwy x q → sI σ3 x q = sI σ2 x q := fun x q h1 h2 => Fr_i d2 (by have := L3.2.2; omega) h2
  have k4 : ∀ x q, x ≤ 153 → ¬ Wse x q → sI σ3 x q = sI σ x q := fun x q h1 h2 => Fr_i F4 (by omega) h2
  have e343 : ∀ x, x ≤ 34 → sI σ3 x = sI σ x := fun x hx => funext fun q => k4 x q (by omega) (by unfold Wse Wlh; omega)
  have g4 : gXc σ3 tx := gXc_Fr F4 L (fun x q w => by unfold fpC at w; unfold Wse Wlh; omega) g
  have gk4 := gK_Fr F4 L (fun a q h1 h2 => by unfold Wse Wlh; omega) gk
  have stf : ∀ m b, m < n → stdF σ3 tx p m b d k = stdF σ tx p m b d k := fun m b hm => std_Fr F4 L g (fun x q w => by
    rcases w with w | w | w | w
    · unfold Wse Wlh; omega
    · unfold Wse Wlh; omega
    · unfold Wse Wlh; omega
    · unfold fpC at w; unfold Wse Wlh; omega) (by omega) d k
  have h12 : sI σ3 78 12 = nI (ctP (bitP B) n) := by rw [kw _ _ (by omega) (by unfold Wwy Wlh; omega), c3, cn]
  have h14 : sI σ3 78 14 = h := by rw [kw _ _ (by omega) (by unfold Wwy Wlh; omega), kc _ _ (by omega) (by unfold Wch; omega)]; exact r78.2.1
  have h15 : sI σ3 78 15 = ice := by rw [kw _ _ (by omega) (by unfold Wwy Wlh; omega), kc _ _ (by omega) (by unfold Wch; omega)]; exact r78.2.2
  have h80 : ∀ m, m < n → bitP B m = true → sI σ3 80 (ctP (bitP B) m) = nI m := fun m hm pm => by
    rw [kw _ _ (by omega) (by unfold Wwy Wlh; omega)]; exact c6 m (by omega) (by omega) pm
  have f0m : ∀ m, m < n → bitP B m = true → f0B σ B m = -1 := fun m _ pm => by unfold f0B; rw [if_pos pm]
  have Lf0 : Lf n (f0B σ B) := fun m hm => by
    unfold f0B
    by_cases c : bitP B m = true
    · rw [if_pos c]; exact Or.inr (Or.inl rfl)
    · rw [if_neg c]; exact lo m hm
  -- choices
  obtain ⟨σ4, l1, l2, l3, l4⟩ := lists_l (v := v) (my := my) (f0 := f0B σ B) L4 e343 T g4 gk4 t11 hft t3 hn h14 h12 (by omega) f0m h80 (fun m b hm hb => by
    rw [stf m b hm, k4 3 _ (by omega) (by unfold Wse Wlh; omega), k4 (29 + m) _ (by omega) (by unfold Wse Wlh; omega)]
    rw [← hh]; exact hmy m b hm hb) n 0 FU σ3 (by omega) (by unfold FU; omega) Fr_rf (fun q hq => by rw [kw _ _ (by omega) (by unfold Wwy Wlh; omega)]; exact tr2 q hq) (fun q hq => absurd hq (by omega))
  have L5 := Lay_Fr l2 L4
  have kl : ∀ x q, x ≤ 153 → ¬ Wsl x q → sI σ4 x q = sI σ3 x q := fun x q h1 h2 => Fr_i l2 (by have := L4.2.2; omega) h2
  have F5 : Fr Wse σ σ4 := Fr_tr F4 (Fr_mo l2 (fun x q w => by unfold Wsl at w; unfold Wse; rcases w with w | w | w | w; exact Or.inl w; exact Or.inr (Or.inr (Or.inr (Or.inr (Or.inr (by omega))))); exact Or.inr (Or.inr (Or.inr (Or.inr (Or.inl w)))); exact Or.inr (Or.inr (Or.inr (Or.inr (Or.inr (by omega)))))))
  -- tops
  obtain ⟨σ5, s1, s2', s3⟩ := sumTops_s (n := n) (p := bitP B) (tm := tmF σ n h (f0B σ B) (fun m b => caF n fr to my m b (f0B σ B))) (ch := fun m b => caF n fr to my m b (f0B σ B)) (ct := fun m b => ctF σ n h (f0B σ B) m b) (by omega) (fun m hm => ⟨rfl, (tm_rg T Lf0 hm).1.1⟩) (fun m => caF_24 t11 hft t3) L5 (by rw [kl _ _ (by omega) (by unfold Wsl Wlh; omega)]; exact h12) (fun m hm pm => by
    obtain ⟨r1, r2, r3, r4⟩ := l4 m hm pm
    exact ⟨r1, fun b hb cb => (r2 b hb cb).2, r4⟩)
  have L6 := Lay_Fr s2' L5
  have ks : ∀ x q, x ≤ 153 → x ≠ 90 → sI σ5 x q = sI σ4 x q := fun x q h1 h2 => Fr_i s2' (by have := L5.2.2; omega) h2
  have F6 : Fr Wse σ (wI σ5 78 13 (-1)) := Fr_wI (Fr_tr F5 (Fr_mo s2' (fun x q w => by unfold Wtp at w; unfold Wse; omega))) (Or.inl (by unfold Wse; omega))
  have L7 : Lay (wI σ5 78 13 (-1)) := Lay_wI L6
  have k7 : ∀ x q, x ≤ 153 → x ≠ 90 → ¬ (x = 78 ∧ q = 13) → sI (wI σ5 78 13 (-1)) x q = sI σ4 x q := fun x q h1 h2 h3 => by
    rw [sI_wI, if_neg h3, ks x q h1 h2]
  have CM0 : CM σ n (bitP B) h ice fr to wy my (f0B σ B) (f0B σ B) (-1, sI σ 93) (wI σ5 78 13 (-1)) := by
    refine ⟨⟨L7, fun x hx => funext fun q => Fr_i F6 (by omega) (by unfold Wse Wlh; omega), hn⟩, ⟨?_, ?_, ?_⟩, fun m hm pm => ?_, fun m hm => ?_, fun q h1 h2 => ?_, sI_w1 _ _ _ _, fun q hq => ?_, fun q hq => ?_⟩
    · rw [k7 _ _ (by omega) (by omega) (by omega), kl _ _ (by omega) (by unfold Wsl Wlh; omega)]; exact h12
    · rw [k7 _ _ (by omega) (by omega) (by omega), kl _ _ (by omega) (by unfold Wsl Wlh; omega)]; exact h14
    · rw [k7 _ _ (by omega) (by omega) (by omega), kl _ _ (by omega) (by unfold Wsl Wlh; omega)]; exact h15
    · have lt := ctP_lt (q := bitP B) hm pm
      obtain ⟨r1, r2, r3, r4⟩ := l4 m hm pm
      refine ⟨?_, ?_, fun b hb cb => ⟨?_, ?_⟩, ?_, ?_⟩
      · rw [k7 _ _ (by omega) (by omega) (by omega), kl _ _ (by omega) (by unfold Wsl Wlh; omega)]; exact h80 m hm pm
      · rw [k7 _ _ (by omega) (by omega) (by omega)]; exact r1
      · rw [k7 _ _ (by omega) (by omega) (by omega)]; exact (r2 b hb cb).1
      · rw [k7 _ _ (by omega) (by omega) (by omega)]; exact (r2 b hb cb).2
      · rw [k7 _ _ (by omega) (by omega) (by omega)]; exact r3
      · rw [k7 _ _ (by omega) (by omega) (by omega)]; exact r4
    · rw [sI_wo (by decide)]; exact s3 m hm
    · rw [k7 _ _ (by omega) (by omega) (by omega), kl _ _ (by omega) (by unfold Wsl Wlh; omega)]; exact d3 q h1 h2
    · rw [k7 _ _ (by omega) (by omega) (by omega)]; exact l3 q hq
    · rw [k7 _ _ (by omega) (by omega) (by omega), kl _ _ (by omega) (by unfold Wsl Wlh; omega), kw _ _ (by omega) (by unfold Wwy Wlh; omega), kc _ _ (by omega) (by unfold Wch; omega)]
      rw [← hσ1, sI_wo (by decide), sI_wo (by decide), sI_wo (by decide)]
  have fin : ∀ (τ : St) (s : Int32 × (Nat → Int32)), Fr Wse σ τ → sI τ 78 13 = s.1 → (∀ q, q < n → sI τ 93 q = s.2 q) → ∃ σ', f6_search_p181 τ 78 B = some (s.1, σ') ∧ Fr Wse σ σ' ∧ sI σ' 78 3 = (if s.1 < 0 then 0 else B) ∧ ∀ q, q < n → sI σ' 79 q = s.2 q := fun τ s F a b => by
    obtain ⟨σ', e1, e2, e3, e4⟩ := end_s (B := B) (Lay_Fr F L) n6 a b
    exact ⟨σ', e1, Fr_tr F (Fr_mo e2 (fun x q w => by unfold Wse; rcases w with w | w; exact Or.inr (Or.inl ⟨w.1, Or.inl w.2⟩); exact Or.inr (Or.inr (Or.inl w)))), e3, e4⟩
  -- the way to here
  have pre : f6_search σ 78 d k B (nI fr) (nI to) = rstC v B σ4 := by
    have p40 : f6_search_p40 (wI σ 78 14 h) 78 d k B (nI fr) (nI to) ice 78 = rstC v B σ4 := by
      unfold f6_search_p40 f6_chooseMills
      have ib : isB ice = true := by
        rw [← hi]; unfold icB
        by_cases c : icF σ q0 d k = 1
        · rw [if_pos c]; rfl
        · rw [if_neg c]; rfl
      rw [gd_t (oL78 L1), gd_t ib, lt_b, gd_t (oL78 L15), gd_t (oL78 L15), lt_b, hσ1]
      have c1' : f6_chooseMills_p7 FU σ1 78 B 0 = some ((), σ2) := c1
      have l1' : f6_search_p135 FU σ3 78 d k B (nI fr) (nI to) v 0 = rstC v B σ4 := l1
      rw [bd_s c1', d1]
      unfold f6_search_p132
      exact l1'
    unfold f6_search
    rw [gd_t (oL78 L), lt_b, rL78_1 L, gd_t nz_s, gd_t (oL35 L), lt_b, rL35_1 L, gd_t nz_s, gd_t (oL36 L), bd_s (heightC L gk d k), hh, lt_b, lt_b, rL78_1 L1, gd_t nz_s, gd_t (oL35 L1), lt_b, rL35_2 L1, gd_t nz_s, gd_t (oL40 L1), bd_s (iceC L1 gk1 d k), i1]
    unfold icB at hi
    by_cases c : icF σ q0 d k = 1
    · rw [if_pos c] at hi ⊢; rw [hi]; exact p40
    · rw [if_neg c] at hi ⊢; rw [hi]; exact p40
  rw [pre]
  unfold rstC
  rw [bd_s s1, lt_b]
  have e13 : sI (wI σ5 78 13 (-1)) 78 13 = -1 := sI_w1 _ _ _ _
  have e93 := CM0.2.2.2.2.2.2.2
  by_cases kp : ∀ q, fr ≤ q → q ≤ to → wy q ≤ mostF (opF σ n (f0B σ B) q h) 6
  · have v0 : ¬ v = 0 := d5.mpr ⟨by decide, kp⟩
    obtain ⟨σ6, t1, t2, t3'⟩ := tryC_s T (by omega) t11 hft t3 (fun q h1 h2 => by have := (hwy q).2; omega) Lf0 n 0 6 (f0B σ B) (-1, sI σ 93) _ (by omega) (by show ctP (bitP B) n < 0 + 6; omega) CM0 (fun q _ h2 h3 => f0m q h2 h3) Lf0 (fun _ _ _ => rfl) kp (show (-1 : Int) ≤ (-1 : Int32).toInt by decide)
    have t1' : f6_tryMill 6 (wI σ5 78 13 (-1)) 78 0 = some ((), σ6) := t1
    rw [if_neg v0, bd_s t1']
    exact fin σ6 _ (Fr_tr F6 (Fr_mo t2 (fun x q w => by unfold Wcm at w; unfold Wse; rcases w with w | w | w; exact Or.inr (Or.inr (Or.inr (Or.inr (Or.inr (by omega))))); exact Or.inr (Or.inr (Or.inr (Or.inr (Or.inr (by omega))))); exact Or.inr (Or.inl (by omega))))) t3'.2.2.2.2.2.1 t3'.2.2.2.2.2.2.2
  · have v0 : v = 0 := by
      by_cases c : v = 0
      · exact c
      · exact absurd (d5.mp c).2 kp
    have sh : ∃ s0, fr ≤ s0 ∧ s0 ≤ to ∧ ¬ wy s0 ≤ mostF (opF σ n (f0B σ B) s0 h) 6 := by
      apply Classical.byContradiction
      intro w
      exact kp (fun q h1 h2 => by
        by_cases c : wy q ≤ mostF (opF σ n (f0B σ B) q h) 6
        · exact c
        · exact absurd ⟨q, h1, h2, c⟩ w)
    obtain ⟨s0, q1, q2, q3⟩ := sh
    have rs := RM_shut (δ := σ) (p := bitP B) (h := h) (ice := ice) (my := my) (d := n) (m := 0) (f := f0B σ B) (s := (-1, sI σ 93)) n6 t11 q1 q2 (by omega) (fun q _ h2 h3 => f0m q h2 h3) q3 (show (-1 : Int) ≤ (-1 : Int32).toInt by decide)
    rw [if_pos v0, rs]
    exact fin _ (-1, sI σ 93) F6 e13 e93
