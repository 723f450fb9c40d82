theorem mill_q {σ : St} (L : Lay σ) {n d : Nat} (g : gM σ n d) (a b c : Int32) : ∃ r σ1 τ n', f11_mill σ 1 a b c = some (r, σ1) ∧ f12_mill σ1 101 a b c = some (r, τ) ∧ Fr Wmi σ τ ∧ gM τ n' d ∧ (n ≤ n' ∧ ∀ m, m < n → sI τ 6 m = sI σ 6 m) := by
  have n6 := g.ri.2.1
  have fr0 : Fr Wmi σ (wI σ 101 0 0) := Fr_wI Fr_rf (Or.inl (Or.inl ⟨rfl, rfl⟩))
  have out : ¬ (((1 ≤ a ∧ a ≤ 9) ∧ (1 ≤ b ∧ b ≤ 90) ∧ (1 ≤ c ∧ c ≤ 2000)) ∧ n < 6) → f11_mill σ 1 a b c = some (-1, σ) → ∃ r σ1 τ n', f11_mill σ 1 a b c = some (r, σ1) ∧ f12_mill σ1 101 a b c = some (r, τ) ∧ Fr Wmi σ τ ∧ gM τ n' d ∧ (n ≤ n' ∧ ∀ m, m < n → sI τ 6 m = sI σ 6 m) := fun h e =>
    ⟨-1, σ, wI σ 101 0 0, n, e, by rw [millM_s L g.ri.1 n6, if_neg h], fr0, gM0 L g, Nat.le_refl _, fun m _ => sI_wo (by decide) m⟩
  by_cases h1 : 1 ≤ a ∧ a ≤ 9
  · by_cases h2 : 1 ≤ b ∧ b ≤ 90
    · by_cases h3 : 1 ≤ c ∧ c ≤ 2000
      · have e : f11_mill σ 1 a b c = f8_launch σ 2 a b c := by
          unfold f11_mill
          rw [ck2 lt_nle, if_pos h1, ck2 lt_nle, if_pos h2, ck2 lt_nle, if_pos h3, gd_t (oL1 L), lt_b, rL1_0 L, gd_t nz_s, gd_t (oL2 L), launch_s L g.sz n6]
          by_cases h : n < 6
          · rw [if_pos h, bd_1]
          · rw [if_neg h, bd_1]
        by_cases h : n < 6
        · have hl := g.lo
          refine ⟨nI n, wI (wI (wI (wI σ (29 + n) 0 a) (29 + n) 1 b) (29 + n) 2 c) 2 5 (nI (n + 1)), wI (wI (wI (wI (wI (wI (wI (wI (wI (wI (wI σ (29 + n) 0 a) (29 + n) 1 b) (29 + n) 2 c) 2 5 (nI (n + 1))) 101 0 0) 106 n a) 107 n b) 108 n c) 109 n (-1)) 113 n (-1)) 101 5 (nI (n + 1)), n + 1, ?_, ?_, ?_, ⟨?_, ⟨?_, by omega, ?_⟩, ?_, ?_, ?_, ?_, ?_⟩, by omega, ?_⟩
          · rw [e, launch_s L g.sz n6, if_pos h]
          · rw [millM_s (Lay_wI (Lay_wI (Lay_wI (Lay_wI L)))) (n := n) (by rw [sI_wo (by omega), sI_wo (by omega), sI_wo (by omega), sI_wo (by omega)]; exact g.ri.1) n6, if_pos ⟨⟨h1, h2, h3⟩, h⟩]
          · refine Fr_wI (Fr_wI (Fr_wI (Fr_wI (Fr_wI (Fr_wI (Fr_wI (Fr_wI (Fr_wI (Fr_wI (Fr_wI Fr_rf ?_) ?_) ?_) ?_) ?_) ?_) ?_) ?_) ?_) ?_) ?_ <;> exact Or.inl (by unfold Wmi fpM; omega)
          · repeat (first | rw [sI_w1] | rw [sI_wo (by omega)] | rw [sI_wk (by omega)])
          · repeat (first | rw [sI_w1] | rw [sI_wo (by omega)] | rw [sI_wk (by omega)])
          · intro m hm
            by_cases q : m = n
            · subst q
              have w := g.nw m (Nat.le_refl _) h
              refine ⟨?_, ?_, ?_, ?_, ?_, ?_, ?_⟩
              · repeat (first | rw [sI_w1] | rw [sI_wo (by omega)] | rw [sI_wk (by omega)])
              · repeat (first | rw [sI_w1] | rw [sI_wo (by omega)] | rw [sI_wk (by omega)])
              · repeat (first | rw [sI_w1] | rw [sI_wo (by omega)] | rw [sI_wk (by omega)])
              · repeat (first | rw [sI_w1] | rw [sI_wo (by omega)] | rw [sI_wk (by omega)])
                rw [w.1, w.2.2.2.2.2.1]
              · repeat (first | rw [sI_w1] | rw [sI_wo (by omega)] | rw [sI_wk (by omega)])
                rw [w.2.1, w.2.2.2.2.2.2.1]
              · repeat (first | rw [sI_w1] | rw [sI_wo (by omega)] | rw [sI_wk (by omega)])
                rw [w.2.2.1, w.2.2.2.2.2.2.2]
              · repeat (first | rw [sI_w1] | rw [sI_wo (by omega)] | rw [sI_wk (by omega)])
                rw [w.2.2.2.1]
            · have w := g.ri.2.2 m (by omega)
              refine ⟨?_, ?_, ?_, ?_, ?_, ?_, ?_⟩
              · repeat (first | rw [sI_w1] | rw [sI_wo (by omega)] | rw [sI_wk (by omega)])
                exact w.1
              · repeat (first | rw [sI_w1] | rw [sI_wo (by omega)] | rw [sI_wk (by omega)])
                exact w.2.1
              · repeat (first | rw [sI_w1] | rw [sI_wo (by omega)] | rw [sI_wk (by omega)])
                exact w.2.2.1
              · repeat (first | rw [sI_w1] | rw [sI_wo (by omega)] | rw [sI_wk (by omega)])
                exact w.2.2.2.1
              · repeat (first | rw [sI_w1] | rw [sI_wo (by omega)] | rw [sI_wk (by omega)])
                exact w.2.2.2.2.1
              · repeat (first | rw [sI_w1] | rw [sI_wo (by omega)] | rw [sI_wk (by omega)])
                exact w.2.2.2.2.2.1
              · repeat (first | rw [sI_w1] | rw [sI_wo (by omega)] | rw [sI_wk (by omega)])
                exact w.2.2.2.2.2.2
          · intro m hm
            by_cases q : m = n
            · subst q
              have w := g.nw m (Nat.le_refl _) h
              repeat (first | rw [sI_w1] | rw [sI_wo (by omega)] | rw [sI_wk (by omega)])
              rw [w.2.2.2.2.1]
            · have w := g.li m (by omega)
              repeat (first | rw [sI_w1] | rw [sI_wo (by omega)] | rw [sI_wk (by omega)])
              exact w
          · have w := (g.nw n (Nat.le_refl _) h).2.2.2.2.1
            refine LO_congr (f := sI σ 6) (fun m hm => by repeat (first | rw [sI_w1] | rw [sI_wo (by omega)] | rw [sI_wk (by omega)])) ⟨fun m hm => ?_, fun i j hi hj e h0 => ?_⟩
            · by_cases q : m = n
              · rw [q]; exact Or.inr (Or.inl w)
              · exact hl.1 m (by omega)
            · by_cases q1 : i = n
              · rw [q1, w] at h0; exact absurd h0 (by decide)
              · by_cases q2 : j = n
                · rw [e, q2, w] at h0; exact absurd h0 (by decide)
                · exact hl.2 i j (by omega) (by omega) e h0
          · intro m hm
            by_cases q : m = n
            · subst q
              have r1 := rng h1
              have r2 := rng h2
              have r3 := rng h3
              refine ⟨?_, ?_, ?_, ?_, ?_, ?_⟩
              · repeat (first | rw [sI_w1] | rw [sI_wo (by omega)] | rw [sI_wk (by omega)])
                exact r1.1
              · repeat (first | rw [sI_w1] | rw [sI_wo (by omega)] | rw [sI_wk (by omega)])
                exact r1.2
              · repeat (first | rw [sI_w1] | rw [sI_wo (by omega)] | rw [sI_wk (by omega)])
                exact r2.1
              · repeat (first | rw [sI_w1] | rw [sI_wo (by omega)] | rw [sI_wk (by omega)])
                exact r2.2
              · repeat (first | rw [sI_w1] | rw [sI_wo (by omega)] | rw [sI_wk (by omega)])
                exact r3.1
              · repeat (first | rw [sI_w1] | rw [sI_wo (by omega)] | rw [sI_wk (by omega)])
                exact r3.2
            · have w := g.rg m (by omega)
              repeat (first | rw [sI_w1] | rw [sI_wo (by omega)] | rw [sI_wk (by omega)])
              exact w
          · intro m hm1 hm2
            have w := g.nw m (by omega) hm2
            repeat (first | rw [sI_w1] | rw [sI_wo (by omega)] | rw [sI_wk (by omega)])
            exact w
          · intro m hm
            by_cases q : m = n
            · subst q
              have w := (g.nw m (Nat.le_refl _) h).1
              repeat (first | rw [sI_w1] | rw [sI_wo (by omega)] | rw [sI_wk (by omega)])
              rw [w]
              exact ⟨Int.le_refl _, by show (0 : Int) ≤ _; omega⟩
            · have w := g.wr m (by omega)
              repeat (first | rw [sI_w1] | rw [sI_wo (by omega)] | rw [sI_wk (by omega)])
              exact w
          · intro m hm
            repeat (first | rw [sI_w1] | rw [sI_wo (by omega)] | rw [sI_wk (by omega)])
        · exact out (fun q => h q.2) (by rw [e, launch_s L g.sz n6, if_neg h])
      · exact out (fun q => h3 q.1.2.2) (by unfold f11_mill; rw [ck2 lt_nle, if_pos h1, ck2 lt_nle, if_pos h2, ck2 lt_nle, if_neg h3])
    · exact out (fun q => h2 q.1.2.1) (by unfold f11_mill; rw [ck2 lt_nle, if_pos h1, ck2 lt_nle, if_neg h2])
  · exact out (fun q => h1 q.1.1) (by unfold f11_mill; rw [ck2 lt_nle, if_neg h1])
