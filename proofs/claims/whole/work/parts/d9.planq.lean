/-! PLAN and PLANNED -/
def Wpq (x k : Nat) : Prop := Wse x k ∨ Wqm x k
def gQ (σ : St) (n : Nat) : Prop := (sI σ 78 3 = 0 ∧ sI σ 101 61 = 0) ∨ (sI σ 101 61 = 1 ∧ ∃ b, (0 < b ∧ b < 2 ^ n) ∧ sI σ 78 3 = nI b ∧ sI σ 101 62 = nI b ∧ ctP (bitP (nI b)) n ≤ 3 ∧ ∀ m, m < n → bitP (nI b) m = true → sI σ 79 m = sI σ 144 m ∧ (sI σ 144 m = -1 ∨ ∃ u, u < 72 ∧ sI σ 144 m = nI u))
theorem gQ_Fr {W : Nat → Nat → Prop} {σ τ : St} {n : Nat} (h : Fr W σ τ) (L : Lay σ) (hw : ∀ x k, x = 78 ∧ k = 3 ∨ x = 79 ∨ x = 101 ∧ (k = 61 ∨ k = 62) ∨ x = 144 → ¬ W x k) (g : gQ σ n) : gQ τ n := by
  have hN := L.2.2
  have e : ∀ x k, x = 78 ∧ k = 3 ∨ x = 79 ∨ x = 101 ∧ (k = 61 ∨ k = 62) ∨ x = 144 → sI τ x k = sI σ x k := fun x k q => Fr_i h (by omega) (hw x k q)
  unfold gQ
  rw [e 78 3 (by omega), e 101 61 (by omega), e 101 62 (by omega)]
  rcases g with g | ⟨g1, b, g2, g3, g4, g5, g6⟩
  · exact Or.inl g
  · exact Or.inr ⟨g1, b, g2, g3, g4, g5, fun m hm c => by rw [e 79 m (by omega), e 144 m (by omega)]; exact g6 m hm c⟩
theorem gQ_mo {σ : St} {n n' : Nat} (h : n ≤ n') (n6 : n' ≤ 6) (g : gQ σ n) : gQ σ n' := by
  rcases g with g | ⟨g1, b, ⟨g2, g2'⟩, g3, g4, g5, g6⟩
  · exact Or.inl g
  · have tw := two_le (n := n) (by omega)
    have lt : 2 ^ n ≤ 2 ^ n' := Nat.pow_le_pow_right (by omega) h
    have no : ∀ k, n ≤ k → k < 6 → ¬ bitP (nI b) k = true := fun k h1 h2 => by
      rw [bit_all b (by omega) n (by omega) g2' k h2 h1]; decide
    refine Or.inr ⟨g1, b, ⟨g2, by omega⟩, g3, g4, by rw [ctP_gap h (fun k a c => no k a (by omega))]; exact g5, fun m hm c => ?_⟩
    by_cases lm : m < n
    · exact g6 m lm c
    · exact absurd c (no m (by omega) (by omega))
theorem gM_put {W : Nat → Nat → Prop} {σ τ : St} {n d : Nat} (h : Fr W σ τ) (L : Lay σ) (hw : ∀ a k, fpM a k → a ≠ 109 → ¬ W a k) (hl : ∀ m, m < n → sI τ 109 m = sI σ 6 m) (g : gM σ n d) : gM τ n d := by
  have hN := L.2.2
  have e : ∀ a k, fpM a k → a ≠ 109 → sI τ a k = sI σ a k := fun a k q h2 => Fr_i h (by unfold fpM at q; omega) (hw a k q h2)
  have n6 := g.ri.2.1
  have eb : ∀ m k, m < 6 → sI τ (29 + m) k = sI σ (29 + m) k := fun m k hm => e _ _ (by unfold fpM; omega) (by omega)
  have er : ∀ a k, 106 ≤ a → a ≤ 113 → a ≠ 109 → sI τ a k = sI σ a k := fun a k h1 h2 h3 => e _ _ (by unfold fpM; omega) h3
  have e6 : ∀ k, sI τ 6 k = sI σ 6 k := fun k => e _ _ (by unfold fpM; omega) (by omega)
  refine ⟨by rw [e _ _ (by unfold fpM; omega) (by omega)]; exact g.sz, ⟨by rw [e _ _ (by unfold fpM; omega) (by omega)]; exact g.ri.1, n6, fun m hm => ?_⟩, fun m hm => ?_, LO_congr (fun m _ => e6 m) g.lo, fun m hm => ?_, fun m h1 h2 => ?_, fun m hm => ?_⟩
  · rw [er 106 _ (by omega) (by omega) (by omega), er 107 _ (by omega) (by omega) (by omega), er 108 _ (by omega) (by omega) (by omega), er 110 _ (by omega) (by omega) (by omega), er 111 _ (by omega) (by omega) (by omega), er 112 _ (by omega) (by omega) (by omega), er 113 _ (by omega) (by omega) (by omega), eb _ _ (by omega), eb _ _ (by omega), eb _ _ (by omega), eb _ _ (by omega), eb _ _ (by omega), eb _ _ (by omega), eb _ _ (by omega)]
    exact g.ri.2.2 m hm
  · rw [e6]; exact hl m hm
  · rw [eb _ _ (by omega), eb _ _ (by omega), eb _ _ (by omega)]; exact g.rg m hm
  · rw [er 110 _ (by omega) (by omega) (by omega), er 111 _ (by omega) (by omega) (by omega), er 112 _ (by omega) (by omega) (by omega), e6, eb _ _ (by omega), eb _ _ (by omega), eb _ _ (by omega), eb _ _ (by omega)]; exact g.nw m h1 h2
  · rw [eb _ _ (by omega)]; exact g.wr m hm
theorem gM_TP {σ : St} {n d : Nat} (t : gT σ) (g : gM σ n d) : TPh σ n :=
  ⟨t.1, g.ri.2.1, fun o ho => ⟨by have := (g.rg o ho).2.2.1; unfold whF; omega, (g.rg o ho).2.2.2.1⟩, fun m hm => (g.wr m hm).1⟩
/-- what can be planned for -/
def cnP (e n : Nat) (B D F T : Int32) (f : Nat → Int32) : Prop := (nI e ≤ D ∧ D ≤ 999) ∧ pkP n B f ∧ (0 ≤ F ∧ F < 12) ∧ (0 ≤ T ∧ T < 12) ∧ F ≤ T ∧ T - F < 4
theorem planC_e {σ : St} (L : Lay σ) {n e : Nat} (hn : sI σ 2 5 = nI n) (n6 : n ≤ 6) (hd : gD σ e) (D B F T : Int32) :
    (cnP e n B D F T (sI σ 6) → f11_plan σ 1 D B F T = f6_search σ 78 D (nI e) B F T) ∧ (¬ cnP e n B D F T (sI σ 6) → f11_plan σ 1 D B F T = some (-1, σ)) := by
  have eC : f11_plan σ 1 D B F T = if D < nI e then some (-1, σ) else if D ≤ 999 then (if 0 ≤ F ∧ F < 12 then (if 0 ≤ T ∧ T < 12 then (if F ≤ T then (if T - F < 4 then (if pkP n B (sI σ 6) then f6_search σ 78 D (nI e) B F T else some (-1, σ)) else some (-1, σ)) else some (-1, σ)) else some (-1, σ)) else some (-1, σ)) else some (-1, σ) := by
    unfold f11_plan
    rw [gd_t (oL1 L), hd.1, bd_s isStretch_s, ite_B, bd_s isStretch_s, ite_B, lt_b, rL1_0 L, gd_t nz_s, gd_t (oL2 L), bd_s (can_s L hn n6), ite_B, lt_b, rL1_4 L, gd_t nz_s, gd_t (oL78 L), hd.1]
    cases f6_search σ 78 D (nI e) B F T <;> rfl
  rw [eC]
  unfold cnP
  by_cases c1 : D < nI e
  · rw [if_pos c1]
    exact ⟨fun w => absurd c1 (Int32.not_lt.mpr w.1.1), fun _ => rfl⟩
  · rw [if_neg c1]
    by_cases c2 : D ≤ 999
    · rw [if_pos c2]
      by_cases c3 : 0 ≤ F ∧ F < 12
      · rw [if_pos c3]
        by_cases c4 : 0 ≤ T ∧ T < 12
        · rw [if_pos c4]
          by_cases c5 : F ≤ T
          · rw [if_pos c5]
            by_cases c6 : T - F < 4
            · rw [if_pos c6]
              by_cases c7 : pkP n B (sI σ 6)
              · rw [if_pos c7]
                exact ⟨fun _ => rfl, fun w => absurd ⟨⟨Int32.not_lt.mp c1, c2⟩, c7, c3, c4, c5, c6⟩ w⟩
              · rw [if_neg c7]
                exact ⟨fun w => absurd w.2.1 c7, fun _ => rfl⟩
            · rw [if_neg c6]
              exact ⟨fun w => absurd w.2.2.2.2.2 c6, fun _ => rfl⟩
          · rw [if_neg c5]
            exact ⟨fun w => absurd w.2.2.2.2.1 c5, fun _ => rfl⟩
        · rw [if_neg c4]
          exact ⟨fun w => absurd w.2.2.2.1 c4, fun _ => rfl⟩
      · rw [if_neg c3]
        exact ⟨fun w => absurd w.2.2.1 c3, fun _ => rfl⟩
    · rw [if_neg c2]
      exact ⟨fun w => absurd w.1.2 c2, fun _ => rfl⟩
/-- the reference behind its tests -/
def goM (ρ : St) (D B F T : Int32) : Option (Int32 × St) :=
  bd (f12_heightAt (wI (wI ρ 101 62 B) 101 68 D) 101 D (sI (wI (wI ρ 101 62 B) 101 68 D) 101 14)) fun r29 t30 =>
  lt (wI t30 101 69 r29) fun t33 =>
  bd (f12_iceAt t33 101 D (sI t33 101 14)) fun r35 t36 =>
  gd (isB r35) (
  lt (wI t36 101 70 r35) fun t40 =>
  lt (wI t40 101 71 F) fun t42 =>
  lt (wI t42 101 72 T) fun t44 =>
  f12_plan_p108 FU t44 101 D T F)
theorem planM_e {ρ : St} (M : Lay ρ) {n e : Nat} {f : Nat → Int32} (hn : sI ρ 101 5 = nI n) (n6 : n ≤ 6) (h14 : sI ρ 101 14 = nI e) (hl : ∀ m, m < n → sI ρ 109 m = f m) (D B F T : Int32) :
    (cnP e n B D F T f → f12_plan ρ 101 D B F T = goM (wI ρ 101 0 0) D B F T) ∧ (¬ cnP e n B D F T f → f12_plan ρ 101 D B F T = some (-1, wI ρ 101 0 0)) := by
  have M0 : Lay (wI ρ 101 0 0) := Lay_wI M
  have eM : f12_plan ρ 101 D B F T = if nI e ≤ D ∧ D ≤ 999 then (if pkP n B f then (if 0 ≤ F ∧ F ≤ 11 then (if F ≤ T ∧ T ≤ 11 then (if T - F ≤ 3 then goM (wI ρ 101 0 0) D B F T else some (-1, wI ρ 101 0 0)) else some (-1, wI ρ 101 0 0)) else some (-1, wI ρ 101 0 0)) else some (-1, wI ρ 101 0 0)) else some (-1, wI ρ 101 0 0) := by
    unfold f12_plan goM
    rw [gd_t (oL101 M), lt_b, sI_wk (by decide), h14, bd_s within_s, ite_B, bd_s (are_s M0 (by rw [sI_wk (by decide)]; exact hn) n6 (f := f) (fun m hm => by rw [sI_wo (by decide)]; exact hl m hm)), ite_B, bd_s within_s, ite_B, bd_s within_s, ite_B, lt_b, lt_b]
  have s12 : ∀ x : Int32, 0 ≤ x → (x ≤ 11 ↔ x < 12) := fun x _ => le_lt (x := x) (a := 11) (b := 12) rfl
  have z : (0 : Int32).toInt = 0 := rfl
  have e11 : (11 : Int32).toInt = 11 := rfl
  rw [eM]
  unfold cnP
  by_cases c1 : nI e ≤ D ∧ D ≤ 999
  · rw [if_pos c1]
    by_cases c2 : pkP n B f
    · rw [if_pos c2]
      by_cases c3 : 0 ≤ F ∧ F ≤ 11
      · have c3' : 0 ≤ F ∧ F < 12 := ⟨c3.1, (s12 F c3.1).mp c3.2⟩
        rw [if_pos c3]
        by_cases c4 : F ≤ T ∧ T ≤ 11
        · have t0 : 0 ≤ T := by
            have a := t_le.mp c3.1
            have b := t_le.mp c4.1
            rw [t_le]
            omega
          have ds : (T - F).toInt = T.toInt - F.toInt := by
            have a := t_le.mp c3.1
            have b := t_le.mp c4.1
            have c := t_le.mp c4.2
            exact t_sub (by omega) (by omega)
          have d34 : T - F ≤ 3 ↔ T - F < 4 := le_lt (x := T - F) (a := 3) (b := 4) rfl
          rw [if_pos c4]
          by_cases c5 : T - F ≤ 3
          · rw [if_pos c5]
            exact ⟨fun _ => rfl, fun w => absurd ⟨c1, c2, c3', ⟨t0, (s12 T t0).mp c4.2⟩, c4.1, d34.mp c5⟩ w⟩
          · rw [if_neg c5]
            exact ⟨fun w => absurd (d34.mpr w.2.2.2.2.2) c5, fun _ => rfl⟩
        · rw [if_neg c4]
          exact ⟨fun w => absurd ⟨w.2.2.2.2.1, (s12 T w.2.2.2.1.1).mpr w.2.2.2.1.2⟩ c4, fun _ => rfl⟩
      · rw [if_neg c3]
        exact ⟨fun w => absurd ⟨w.2.2.1.1, (s12 F w.2.2.1.1).mpr w.2.2.1.2⟩ c3, fun _ => rfl⟩
    · rw [if_neg c2]
      exact ⟨fun w => absurd w.2.1 c2, fun _ => rfl⟩
  · rw [if_neg c1]
    exact ⟨fun w => absurd w.1 c1, fun _ => rfl⟩
theorem LO_f0 {σ : St} {n : Nat} {B : Int32} (l : LO n (sI σ 6)) : LO n (f0B σ B) := by
  refine ⟨fun m hm => ?_, fun i j hi hj e h0 => ?_⟩
  · unfold f0B
    by_cases c : bitP B m = true
    · rw [if_pos c]; exact Or.inr (Or.inl rfl)
    · rw [if_neg c]; exact l.1 m hm
  · have n1 : ¬ (0 : Int32) ≤ -1 := by decide
    unfold f0B at e h0
    by_cases c : bitP B i = true
    · rw [if_pos c] at h0; exact absurd h0 n1
    · rw [if_neg c] at e h0
      by_cases c' : bitP B j = true
      · rw [if_pos c'] at e; rw [e] at h0; exact absurd h0 n1
      · rw [if_neg c'] at e; exact l.2 i j hi hj e h0
/-- the reference's whole search -/
theorem goM_s {σ ρ : St} {n d e p q fr to : Nat} {tx : Nat → Nat} {B D : Int32} {wy : Nat → Nat} (M : Lay ρ) (R : RR σ ρ n p q tx) (V : RiV σ ρ n) (g : gM σ n d) (h14 : sI ρ 101 14 = nI e) (hl : ∀ m, m < n → sI ρ 109 m = sI σ 6 m) (t11 : to ≤ 11) (hft : fr ≤ to) (hwy : ∀ s, wayF σ tx p s D (nI e) = nI (wy s) ∧ wy s ≤ 6) :
    ∃ τ, goM ρ D B (nI fr) (nI to) = some ((RM (wgF σ n (bitP B) (hgF σ p D (nI e)) (icB (icF σ q D (nI e))) fr to wy) (bitP B) (caF n fr to (myF σ tx p (hgF σ p D (nI e)) D (nI e))) n 0 (f0B σ B) (-1, sI ρ 144)).1, τ) ∧ Fr Wqm ρ τ ∧ (∀ m, m < n → sI τ 109 m = sI σ 6 m) ∧ sI τ 101 62 = B ∧
      sI τ 101 61 = (if (RM (wgF σ n (bitP B) (hgF σ p D (nI e)) (icB (icF σ q D (nI e))) fr to wy) (bitP B) (caF n fr to (myF σ tx p (hgF σ p D (nI e)) D (nI e))) n 0 (f0B σ B) (-1, sI ρ 144)).1 = -1 then 0 else 1) ∧
      ∀ m, m < n → sI τ 144 m = (RM (wgF σ n (bitP B) (hgF σ p D (nI e)) (icB (icF σ q D (nI e))) fr to wy) (bitP B) (caF n fr to (myF σ tx p (hgF σ p D (nI e)) D (nI e))) n 0 (f0B σ B) (-1, sI ρ 144)).2 m := by
  have hN := M.2.2
  have n6 := g.ri.2.1
  have gk := R.1.2.1
  have hh : Hh (hgF σ p D (nI e)) := hgF_hh gk D (nI e)
  -- put down what is asked
  have M1 : Lay (wI (wI ρ 101 62 B) 101 68 D) := Lay_wI (Lay_wI M)
  have F1 : Fr Wqm ρ (wI (wI ρ 101 62 B) 101 68 D) := by
    refine Fr_wI (Fr_wI Fr_rf ?_) ?_ <;> exact Or.inl (by unfold Wqm; omega)
  have R1 := RR_pm F1 (fun _ _ w => w) M R
  have hH := heightM M1 gk R1.2.2.2.1 D (nI e)
  have M2 : Lay (wI (wI (wI ρ 101 62 B) 101 68 D) 101 69 (hgF σ p D (nI e))) := Lay_wI M1
  have F2 : Fr Wqm ρ (wI (wI (wI ρ 101 62 B) 101 68 D) 101 69 (hgF σ p D (nI e))) := Fr_wI F1 (Or.inl (by unfold Wqm; omega))
  have R2 := RR_pm F2 (fun _ _ w => w) M R
  have hI := iceM M2 gk R2.2.2.2.1 D (nI e)
  obtain ⟨ice, hice⟩ : ∃ ice, icB (icF σ q D (nI e)) = ice := ⟨_, rfl⟩
  have eice : icF σ q D (nI e) = ice := by
    rw [← hice]; unfold icB
    rcases icF_b gk D (nI e) with w | w
    · rw [w]; rfl
    · rw [w]; rfl
  have bice : isB ice = true := by
    rw [← eice]
    rcases icF_b gk D (nI e) with w | w
    · rw [w]; rfl
    · rw [w]; rfl
  obtain ⟨h, hhh⟩ : ∃ h, hgF σ p D (nI e) = h := ⟨_, rfl⟩
  rw [hice]
  rw [eice] at hI
  rw [hhh] at hh hH hI M2 F2 R2
  rw [hhh]
  obtain ⟨ρ2, hρ2⟩ : ∃ ρ2, wI (wI (wI (wI (wI (wI ρ 101 62 B) 101 68 D) 101 69 h) 101 70 ice) 101 71 (nI fr)) 101 72 (nI to) = ρ2 := ⟨_, rfl⟩
  have F3 : Fr Wqm ρ ρ2 := by
    rw [← hρ2]
    refine Fr_wI (Fr_wI (Fr_wI F2 ?_) ?_) ?_ <;> exact Or.inl (by unfold Wqm; omega)
  have M3 := Lay_Fr F3 M
  have R3 := RR_pm F3 (fun _ _ w => w) M R
  have rd : sI ρ2 101 62 = B ∧ sI ρ2 101 69 = h ∧ sI ρ2 101 70 = ice ∧ sI ρ2 101 71 = nI fr ∧ sI ρ2 101 72 = nI to ∧ sI ρ2 101 14 = nI e ∧ (∀ k, sI ρ2 109 k = sI ρ 109 k) ∧ ∀ k, sI ρ2 144 k = sI ρ 144 k := by
    rw [← hρ2]
    refine ⟨?_, ?_, ?_, ?_, ?_, ?_, fun k => ?_, fun k => ?_⟩
    · repeat (first | rw [sI_w1] | rw [sI_wk (by decide)])
    · repeat (first | rw [sI_w1] | rw [sI_wk (by decide)])
    · repeat (first | rw [sI_w1] | rw [sI_wk (by decide)])
    · repeat (first | rw [sI_w1] | rw [sI_wk (by decide)])
    · repeat (first | rw [sI_w1] | rw [sI_wk (by decide)])
    · repeat (rw [sI_wk (by decide)])
      exact h14
    · repeat (rw [sI_wo (by decide)])
    · repeat (rw [sI_wo (by decide)])
  have e2 : goM ρ D B (nI fr) (nI to) = f12_plan_p108 FU ρ2 101 D (nI to) (nI fr) := by
    unfold goM
    rw [sI_wk (by decide), sI_wk (by decide), h14, bd_s hH, lt_b, sI_wk (by decide), sI_wk (by decide), sI_wk (by decide), h14, bd_s hI, gd_t bice, lt_b, lt_b, lt_b, hρ2]
  -- ways
  obtain ⟨ρ3, a1, a2, a3, a4⟩ := waysM_l (D := D) t11 (to + 1 - fr) fr FU ρ2 (by omega) (by unfold FU; omega) M3 R3 rd.2.2.2.2.2.1
  have F4 : Fr Wqm ρ ρ3 := Fr_tr F3 (Fr_mo a2 (fun x k w => by unfold Wpw at w; unfold Wqm; omega))
  have M4 := Lay_Fr F4 M
  have k3 : ∀ x k, x ≤ 153 → ¬ Wpw x k → sI ρ3 x k = sI ρ2 x k := fun x k h1 h2 => Fr_i a2 (by have := M3.2.2; omega) h2
  -- mills lifted
  obtain ⟨ρ4, b1, b2, -, -, b5, b6⟩ := liftM_l (e := e) (D := D) (B := B) (h := h) (f0 := sI σ 6) (f := f0B σ B) hh n6 (fun m _ => rfl) n 0 FU ρ3 (by omega) (by unfold FU; omega) M4 (RR_pm F4 (fun _ _ w => w) M R) (by rw [k3 _ _ (by omega) (by unfold Wpw; omega)]; exact rd.2.2.2.2.2.1) (by rw [k3 _ _ (by omega) (by unfold Wpw; omega)]; exact rd.2.1) (by rw [k3 _ _ (by omega) (by unfold Wpw; omega)]; exact rd.1) (fun k _ hk => by rw [k3 _ _ (by omega) (by unfold Wpw; omega), rd.2.2.2.2.2.2.1]; exact hl k hk)
  have F5 : Fr Wqm ρ ρ4 := Fr_tr F4 (Fr_mo b2 (fun x k w => by unfold Wpl at w; unfold Wqm; omega))
  have M5 := Lay_Fr F5 M
  have k4 : ∀ x k, x ≤ 153 → ¬ Wpl x k → sI ρ4 x k = sI ρ3 x k := fun x k h1 h2 => Fr_i b2 (by have := M4.2.2; omega) h2
  have k24 : ∀ x k, x ≤ 153 → ¬ Wpw x k → ¬ Wpl x k → sI ρ4 x k = sI ρ2 x k := fun x k h1 h2 h3 => by rw [k4 x k h1 h3, k3 x k h1 h2]
  obtain ⟨ρ5, hρ5⟩ : ∃ ρ5, wI ρ4 101 73 (-1) = ρ5 := ⟨_, rfl⟩
  have F6 : Fr Wqm ρ ρ5 := by rw [← hρ5]; exact Fr_wI F5 (Or.inl (by unfold Wqm; omega))
  have M6 := Lay_Fr F6 M
  have k5 : ∀ x k, ¬ (x = 101 ∧ k = 73) → sI ρ5 x k = sI ρ4 x k := fun x k hx => by rw [← hρ5, sI_wI, if_neg hx]
  have V6 := RiV_Fr F6 (fun a k w => by unfold Wqm; omega) V
  have S : SM σ n B h ice fr to wy (myF σ tx p h D (nI e)) (f0B σ B) (-1, sI ρ 144) ρ5 := by
    refine ⟨⟨V6, LO_f0 g.lo, fun k hk => ?_⟩, ⟨?_, ?_, ?_, ?_, ?_⟩, fun s h1 h2 => ?_, fun m b h1 h2 h3 => ?_, ?_, fun k hk => ?_⟩
    · rw [k5 _ _ (by omega)]; exact (b5 k (by omega) hk).1
    · rw [k5 _ _ (by omega), k24 _ _ (by omega) (by unfold Wpw; omega) (by unfold Wpl; omega)]; exact rd.1
    · rw [k5 _ _ (by omega), k24 _ _ (by omega) (by unfold Wpw; omega) (by unfold Wpl; omega)]; exact rd.2.1
    · rw [k5 _ _ (by omega), k24 _ _ (by omega) (by unfold Wpw; omega) (by unfold Wpl; omega)]; exact rd.2.2.1
    · rw [k5 _ _ (by omega), k24 _ _ (by omega) (by unfold Wpw; omega) (by unfold Wpl; omega)]; exact rd.2.2.2.1
    · rw [k5 _ _ (by omega), k24 _ _ (by omega) (by unfold Wpw; omega) (by unfold Wpl; omega)]; exact rd.2.2.2.2.1
    · rw [k5 _ _ (by omega), k4 _ _ (by omega) (by unfold Wpl; omega), a4 s h1 h2, (hwy s).1]
      exact ⟨rfl, by have := (hwy s).2; omega⟩
    · rw [k5 _ _ (by omega)]; exact b6 m (by omega) h1 h2 b h3
    · rw [← hρ5, sI_w1]
    · rw [k5 _ _ (by omega), k24 _ _ (by omega) (by unfold Wpw; omega) (by unfold Wpl; omega)]; exact rd.2.2.2.2.2.2.2 k
  obtain ⟨ρ6, c1, c2, c3⟩ := tries_s hh t11 hft (fun m hm => by have := (g.rg m hm).2.2.2.2.1; omega) n 0 10 _ _ ρ5 (by omega) (by omega) S (fun k _ hk hp => by unfold f0B; rw [if_pos hp])
  have F7 : Fr Wqm ρ ρ6 := Fr_tr F6 (Fr_mo c2 (fun _ _ => tr_pm))
  have M7 := Lay_Fr F7 M
  have k6 : ∀ x k, x ≤ 153 → ¬ Wtr x k → sI ρ6 x k = sI ρ5 x k := fun x k h1 h2 => Fr_i c2 (by have := M6.2.2; omega) h2
  obtain ⟨⟨V7, -, -⟩, ⟨s62, -⟩, -, -, s73, s144⟩ := c3
  obtain ⟨ρ7, d1, d2, d3, d4, -, d6⟩ := backM_l (f0 := sI σ 6) n6 n 0 FU ρ6 (by omega) (by unfold FU; omega) M7 V7.2.2.2.2.2.1 (fun k hk => by rw [k6 _ _ (by omega) (by unfold Wtr; omega), k5 _ _ (by omega)]; exact (b5 k (by omega) hk).2)
  obtain ⟨τ, hτ⟩ : ∃ τ, wI ρ7 101 61 (if sI ρ6 101 73 = -1 then 0 else 1) = τ := ⟨_, rfl⟩
  rw [hτ] at d1
  have t61 : sI τ 101 61 = if sI ρ6 101 73 = -1 then 0 else 1 := by rw [← hτ, sI_w1]
  have tot : ∀ x k, ¬ (x = 101 ∧ k = 61) → sI τ x k = sI ρ7 x k := fun x k hx => by rw [← hτ, sI_wI, if_neg hx]
  rw [s73] at d1 t61
  refine ⟨τ, ?_, ?_, fun m hm => ?_, ?_, t61, fun m hm => ?_⟩
  · have b1' : f12_plan_p142 FU ρ3 101 D 0 = _ := b1
    have c1' : f12_tries 10 ρ5 101 0 = some ((), ρ6) := c1
    have d1' : f12_plan_p274 FU ρ6 101 0 = _ := d1
    rw [e2, a1, b1', lt_b, hρ5, bd_s c1', d1']
  · rw [← hτ]
    exact Fr_wI (Fr_tr F7 (Fr_mo d4 (fun _ _ => tr_pm))) (Or.inl (by unfold Wqm; omega))
  · rw [tot _ _ (by omega)]; exact d6 m (by omega) hm
  · rw [tot _ _ (by omega), d3 _ _ (by decide)]; exact s62
  · rw [tot _ _ (by omega), d3 _ _ (by decide)]; exact s144 m hm
