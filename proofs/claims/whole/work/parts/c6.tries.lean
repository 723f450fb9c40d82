/-! THE REFERENCE TRIES all of them -/
theorem wgF_cg {δ : St} {n fr to : Nat} {p : Nat → Bool} {h ice : Int32} {wy : Nat → Nat} {f g : Nat → Int32} (e : ∀ k, k < n → f k = g k) : wgF δ n p h ice fr to wy f = wgF δ n p h ice fr to wy g := by
  have a : allB (okP δ n p h ice f) n = allB (okP δ n p h ice g) n := by
    rw [Bool.eq_iff_iff, allB_t, allB_t]
    have : ∀ m, m < n → okP δ n p h ice f m = okP δ n p h ice g m := fun m hm => by unfold okP; rw [plP_cg hm e]
    exact ⟨fun w k hk => by rw [← this k hk]; exact w k hk, fun w k hk => by rw [this k hk]; exact w k hk⟩
  have o : ∀ s, opF δ n f s h = opF δ n g s h := fun s => funext fun l => by unfold opF; rw [lyF_eq e]
  have b : okW δ n h fr to wy f = okW δ n h fr to wy g := funext fun s => by unfold okW; rw [o s]
  unfold wgF
  rw [a, b, smF_congr n (fun k hk => pwP_cg hk e)]
/-- where the reference stands in its trials: f lies, s is the best so far -/
def SM (δ : St) (n : Nat) (B h ice : Int32) (fr to : Nat) (wy : Nat → Nat) (my : Nat → Nat → Bool) (f : Nat → Int32) (s : Int32 × (Nat → Int32)) (ρ : St) : Prop :=
  (RiV δ ρ n ∧ LO n f ∧ ∀ k, k < n → sI ρ 109 k = f k) ∧ (sI ρ 101 62 = B ∧ sI ρ 101 69 = h ∧ sI ρ 101 70 = ice ∧ sI ρ 101 71 = nI fr ∧ sI ρ 101 72 = nI to) ∧
  (∀ s, fr ≤ s → s ≤ to → sI ρ 148 s = nI (wy s) ∧ wy s < 100) ∧ (∀ m b, m < n → bitP B m = true → b < 72 → sI ρ 147 (72 * m + b) = if my m b = true then 1 else 0) ∧ sI ρ 101 73 = s.1 ∧ ∀ k, k < n → sI ρ 144 k = s.2 k
def Wtr (x k : Nat) : Prop := x = 109 ∨ x = 144 ∨ x = 101 ∧ k = 73
theorem SM_Fr {δ : St} {n : Nat} {B h ice : Int32} {fr to : Nat} {wy : Nat → Nat} {my : Nat → Nat → Bool} {f g : Nat → Int32} {s t : Int32 × (Nat → Int32)} {ρ ρ' : St} (S : SM δ n B h ice fr to wy my f s ρ) (F : Fr Wtr ρ ρ') (O : LO n g) (e1 : ∀ k, k < n → sI ρ' 109 k = g k) (e2 : sI ρ' 101 73 = t.1) (e3 : ∀ k, k < n → sI ρ' 144 k = t.2 k) : SM δ n B h ice fr to wy my g t ρ' := by
  obtain ⟨⟨R, -, -⟩, ⟨s1, s2, s3, s4, s5⟩, w, m, -, -⟩ := S
  have hN := R.1.2.2
  have k : ∀ x j, x ≤ 153 → ¬ Wtr x j → sI ρ' x j = sI ρ x j := fun x j h1 h2 => Fr_i F (by omega) h2
  refine ⟨⟨RiV_Fr F (fun a j q => by unfold Wtr; omega) R, O, e1⟩, ⟨?_, ?_, ?_, ?_, ?_⟩, fun q h1 h2 => ?_, fun q b h1 h2 h3 => ?_, e2, e3⟩
  · rw [k _ _ (by omega) (by unfold Wtr; omega)]; exact s1
  · rw [k _ _ (by omega) (by unfold Wtr; omega)]; exact s2
  · rw [k _ _ (by omega) (by unfold Wtr; omega)]; exact s3
  · rw [k _ _ (by omega) (by unfold Wtr; omega)]; exact s4
  · rw [k _ _ (by omega) (by unfold Wtr; omega)]; exact s5
  · rw [k _ _ (by omega) (by unfold Wtr; omega)]; exact w q h1 h2
  · rw [k _ _ (by omega) (by unfold Wtr; omega)]; exact m q b h1 h2 h3
theorem LO_put {n m b : Nat} {f : Nat → Int32} (n6 : n ≤ 6) (l : LO n f) (hb : b < 72) (hl : lyF f (nI b) n 0 = -1) : LO n (ud f m (nI b)) := by
  refine LO_set (m := m) (b := nI b) l (fun q => rfl) (Or.inr (Or.inr ⟨⟨b, hb, rfl⟩, fun q hq _ => ?_⟩))
  rcases lyF_sp (f := f) (b := nI b) n 0 with ⟨-, h2⟩ | ⟨k, h1, h2, h3, -⟩
  · exact h2 q (by omega) (by omega)
  · rw [h3] at hl; exact absurd hl (nI_m1 (by omega))
theorem best_l (F : St → Nat → Int32 → Option (Unit × St)) {n : Nat} (n6 : n ≤ 6) : ∀ (j k fuel : Nat) (ρ : St), k + j = n → j < fuel → Lay ρ → sI ρ 101 5 = nI n → ∃ ρ', f12_tries_p29 F fuel ρ 101 (nI k) = some ((), ρ') ∧ Fr Wtr ρ ρ' ∧ (∀ x q, x ≠ 144 → sI ρ' x q = sI ρ x q) ∧ (∀ q, q < k → sI ρ' 144 q = sI ρ 144 q) ∧ ∀ q, k ≤ q → q < n → sI ρ' 144 q = sI ρ 109 q := by
  intro j
  induction j with
  | zero =>
    intro k fuel ρ hk hf M h5
    obtain ⟨f, rfl, -⟩ := suc_of hf
    refine ⟨ρ, ?_, Fr_rf, fun _ _ _ => rfl, fun _ _ => rfl, fun q h1 h2 => absurd h2 (by omega)⟩
    rw [f12_tries_p29, gd_t (oL101 M), h5, if_neg (nI_nlt (by omega) (by omega))]
  | succ j ih =>
    intro k fuel ρ hk hf M h5
    obtain ⟨f, rfl, -⟩ := suc_of hf
    obtain ⟨ρ', a1, a2, a3, a4, a5⟩ := ih (k + 1) f (wI ρ 144 k (sI ρ 109 k)) (by omega) (by omega) (Lay_wI M) (by rw [sI_wo (by decide)]; exact h5)
    refine ⟨ρ', ?_, Fr_tr (Fr_wI Fr_rf (Or.inl (by unfold Wtr; omega))) a2, fun x q hx => by rw [a3 x q hx, sI_wo hx], fun q hq => by rw [a4 q (by omega), sI_wk (by omega)], fun q h1 h2 => ?_⟩
    · rw [f12_tries_p29, gd_t (oL101 M), h5, if_pos (nI_lt (by omega) (by omega)), lt_b, rL101_63 M, gd_t nz_s, lt_b, rL101_9 M, gd_t nz_s, gd_t (oL109 M), gd_t (inb_n (lL109 M) (by omega) (by decide)), gd_t (oL144 M), gd_t (inb_n (lL144 M) (by omega) (by decide)), lt_b, ix_n (by omega), lt_b, nI_1]
      exact a1
    · by_cases e : q = k
      · rw [e, a4 k (by omega), sI_w1]
      · rw [a5 q (by omega) h2, sI_wo (by decide)]
theorem tries_s {δ : St} {n : Nat} {B h ice : Int32} {fr to : Nat} {wy : Nat → Nat} {my : Nat → Nat → Bool} (hh : Hh h) (t11 : to ≤ 11) (hft : fr ≤ to) (ch : ∀ m, m < n → 0 ≤ (sI δ (29 + m) 2).toInt) :
    ∀ (d m fuel : Nat) (f : Nat → Int32) (s : Int32 × (Nat → Int32)) (ρ : St), m + d = n → d < fuel → SM δ n B h ice fr to wy my f s ρ → (∀ q, m ≤ q → q < n → bitP B q = true → f q = -1) →
      ∃ ρ', f12_tries fuel ρ 101 (nI m) = some ((), ρ') ∧ Fr Wtr ρ ρ' ∧ SM δ n B h ice fr to wy my f (RM (wgF δ n (bitP B) h ice fr to wy) (bitP B) (caF n fr to my) d m f s) ρ' := by
  intro d
  induction d with
  | zero =>
    intro m fuel f s ρ hm hf S hn1
    obtain ⟨g, rfl, -⟩ := suc_of hf
    have e : m = n := by omega
    subst e
    obtain ⟨⟨R, O, l9⟩, ⟨s1, s2, s3, s4, s5⟩, w, my1, b73, b144⟩ := S
    have M := R.1
    have n6 := R.2.2.2.2.2.2.1
    have h5 := R.2.2.2.2.2.1
    have O' : LO m (sI ρ 109) := LO_congr (fun q hq => l9 q hq) O
    have wg := weighs_s (B := B) (ice := ice) R O' hh t11 hft s1 s2 s3 s4 s5 w ch
    rw [wgF_cg (g := f) l9] at wg
    have eR : RM (wgF δ m (bitP B) h ice fr to wy) (bitP B) (caF m fr to my) 0 m f s = if wgF δ m (bitP B) h ice fr to wy f ≤ s.1 then s else (wgF δ m (bitP B) h ice fr to wy f, f) := rfl
    rw [eR]
    by_cases c : wgF δ m (bitP B) h ice fr to wy f ≤ s.1
    · rw [if_pos c]
      refine ⟨ρ, ?_, Fr_rf, ⟨⟨R, O, l9⟩, ⟨s1, s2, s3, s4, s5⟩, w, my1, b73, b144⟩⟩
      show f12_tries_b (f12_tries g) ρ 101 (nI m) = _
      unfold f12_tries_b
      rw [gd_t (oL101 M), h5, if_pos rfl, bd_s wg, b73, if_pos c]
    · rw [if_neg c]
      obtain ⟨ρ', a1, a2, a3, a4, a5⟩ := best_l (f12_tries g) n6 m 0 FU (wI ρ 101 73 (wgF δ m (bitP B) h ice fr to wy f)) (by omega) (by unfold FU; omega) (Lay_wI M) (by rw [sI_wk (by decide)]; exact h5)
      have F : Fr Wtr ρ ρ' := Fr_tr (Fr_wI Fr_rf (Or.inl (by unfold Wtr; omega))) a2
      refine ⟨ρ', ?_, F, SM_Fr (f := f) (s := s) ⟨⟨R, O, l9⟩, ⟨s1, s2, s3, s4, s5⟩, w, my1, b73, b144⟩ F O (fun k hk => by rw [a3 109 k (by decide), sI_wo (by decide)]; exact l9 k hk) (by rw [a3 101 73 (by decide), sI_w1]) (fun k hk => by rw [a5 k (by omega) hk, sI_wo (by decide)]; exact l9 k hk)⟩
      show f12_tries_b (f12_tries g) ρ 101 (nI m) = _
      unfold f12_tries_b
      rw [gd_t (oL101 M), h5, if_pos rfl, bd_s wg, b73, if_neg c, lt_b]
      exact a1
  | succ d ih =>
    intro m fuel f s ρ hm hf S hn1
    obtain ⟨g, rfl, hg⟩ := suc_of hf
    have R := S.1.1
    have M := R.1
    have n6 := R.2.2.2.2.2.2.1
    have h5 := R.2.2.2.2.2.1
    have ne : ¬ nI m = nI n := fun w => by have := (nI_eq (by omega) (by omega)).mp w; omega
    by_cases c : bitP B m = true
    · have eR : RM (wgF δ n (bitP B) h ice fr to wy) (bitP B) (caF n fr to my) (d + 1) m f s = RM (wgF δ n (bitP B) h ice fr to wy) (bitP B) (caF n fr to my) d (m + 1) f (fbF (fun b s => if caF n fr to my m b f = true then RM (wgF δ n (bitP B) h ice fr to wy) (bitP B) (caF n fr to my) d (m + 1) (ud f m (nI b)) s else s) 72 0 s) := by
        show (if bitP B m = true then _ else _) = _
        rw [if_pos c]
      rw [eR]
      have fm := hn1 m (Nat.le_refl _) (by omega) c
      -- the berths from b on
      have loop : ∀ (j b fu : Nat) (s : Int32 × (Nat → Int32)) (ρ : St), b + j = 72 → j < fu → SM δ n B h ice fr to wy my f s ρ → ∃ ρ', f12_tries_p74 (f12_tries g) fu ρ 101 (nI m) (nI b) = some ((), ρ') ∧ Fr Wtr ρ ρ' ∧ SM δ n B h ice fr to wy my f (RM (wgF δ n (bitP B) h ice fr to wy) (bitP B) (caF n fr to my) d (m + 1) f (fbF (fun b s => if caF n fr to my m b f = true then RM (wgF δ n (bitP B) h ice fr to wy) (bitP B) (caF n fr to my) d (m + 1) (ud f m (nI b)) s else s) j b s)) ρ' := by
        intro j
        induction j with
        | zero =>
          intro b fu s ρ hb hfu S
          obtain ⟨q, rfl, -⟩ := suc_of hfu
          have e : b = 72 := by omega
          subst e
          have M := S.1.1.1
          obtain ⟨ρ', a1, a2, a3⟩ := ih (m + 1) g f s ρ (by omega) (by omega) S (fun q h1 h2 h3 => hn1 q (by omega) h2 h3)
          refine ⟨ρ', ?_, a2, a3⟩
          rw [f12_tries_p74, if_neg (by decide), gd_t (oL101 M), nI_1, bd_s a1]
        | succ j jh =>
          intro b fu s ρ hb hfu S
          obtain ⟨q, rfl, -⟩ := suc_of hfu
          obtain ⟨⟨R, O, l9⟩, ⟨s1, s2, s3, s4, s5⟩, w, my1, b73, b144⟩ := id S
          have M := R.1
          have b72 : b < 72 := by omega
          have next : ∀ s' ρ1, SM δ n B h ice fr to wy my f s' ρ1 → Fr Wtr ρ ρ1 → s' = (if caF n fr to my m b f = true then RM (wgF δ n (bitP B) h ice fr to wy) (bitP B) (caF n fr to my) d (m + 1) (ud f m (nI b)) s else s) → ∃ ρ', f12_tries_p145 (f12_tries g) (f12_tries_p74 (f12_tries g) q) ρ1 101 (nI m) (nI b) = some ((), ρ') ∧ Fr Wtr ρ ρ' ∧ SM δ n B h ice fr to wy my f (RM (wgF δ n (bitP B) h ice fr to wy) (bitP B) (caF n fr to my) d (m + 1) f (fbF (fun b s => if caF n fr to my m b f = true then RM (wgF δ n (bitP B) h ice fr to wy) (bitP B) (caF n fr to my) d (m + 1) (ud f m (nI b)) s else s) (j + 1) b s)) ρ' := by
            intro s' ρ1 S1 F1 e
            obtain ⟨ρ', a1, a2, a3⟩ := jh (b + 1) q s' ρ1 (by omega) (by omega) S1
            refine ⟨ρ', ?_, Fr_tr F1 a2, ?_⟩
            · unfold f12_tries_p145
              rw [lt_b, nI_1]
              exact a1
            · unfold fbF
              rw [← e]
              exact a3
          have e72 : (72 : Int32) * nI m + nI b = nI (72 * m + b) := by
            have : (72 : Int32) * nI m = nI (72 * m) := pk_mul 72 m
            rw [this, nI_add]
          rw [f12_tries_p74, if_pos (show nI b < 72 from nI_lt (b := 72) b72 (by decide)), gd_t (oL101 M), n_mod12 (by omega), s4, s5, bd_s within_s, ite_B]
          by_cases c1 : nI fr ≤ nI (b % 12) ∧ nI (b % 12) ≤ nI to
          · have c1' : fr ≤ b % 12 ∧ b % 12 ≤ to := ⟨(nI_leI (by omega) (by omega)).mp c1.1, (nI_leI (by omega) (by omega)).mp c1.2⟩
            rw [if_pos c1, lt_b, rL101_66 M, gd_t nz_s, gd_t (oL147 M), e72, gd_t (inb_n (lL147 M) (by omega) (by decide)), ix_n (by omega), my1 m b (by omega) c b72, ite_B]
            by_cases c2 : my m b = true
            · rw [if_pos c2, bd_s (millAt_s M R.2.2.2.2.2.1 n6), lyF_eq l9]
              by_cases c3 : lyF f (nI b) n 0 = -1
              · have cn : caF n fr to my m b f = true := by unfold caF; rw [decide_eq_true c1', c2, decide_eq_true c3]; rfl
                rw [if_pos c3, lt_b, rL101_9 M, gd_t nz_s, gd_t (oL109 M), gd_t (inb_n (lL109 M) (by omega) (by decide)), lt_b, ix_n (by omega)]
                have F1 : Fr Wtr ρ (wI ρ 109 m (nI b)) := Fr_wI Fr_rf (Or.inl (by unfold Wtr; omega))
                have S1 : SM δ n B h ice fr to wy my (ud f m (nI b)) s (wI ρ 109 m (nI b)) := SM_Fr S F1 (LO_put n6 O b72 c3) (fun k hk => by
                  unfold ud
                  by_cases e : k = m
                  · rw [if_pos e, e, sI_w1]
                  · rw [if_neg e, sI_wk e]; exact l9 k hk) (by rw [sI_wo (by decide)]; exact b73) (fun k hk => by rw [sI_wo (by decide)]; exact b144 k hk)
                obtain ⟨ρ2, a1, a2, a3⟩ := ih (m + 1) g (ud f m (nI b)) s _ (by omega) (by omega) S1 (fun q h1 h2 h3 => by unfold ud; rw [if_neg (by omega)]; exact hn1 q (by omega) h2 h3)
                have M2 := a3.1.1.1
                rw [nI_1, bd_s a1, lt_b, rL101_9 M2, gd_t nz_s, gd_t (oL109 M2), gd_t (inb_n (lL109 M2) (by omega) (by decide)), lt_b]
                have F2 : Fr Wtr ρ2 (wI ρ2 109 m (-1)) := Fr_wI Fr_rf (Or.inl (by unfold Wtr; omega))
                refine next _ _ (SM_Fr a3 F2 O (fun k hk => ?_) (by rw [sI_wo (by decide)]; exact a3.2.2.2.2.1) (fun k hk => by rw [sI_wo (by decide)]; exact a3.2.2.2.2.2 k hk)) (Fr_tr (Fr_tr F1 a2) F2) (by rw [if_pos cn])
                by_cases e : k = m
                · rw [e, sI_w1, fm]
                · rw [sI_wk e, a3.1.2.2 k hk]; unfold ud; rw [if_neg e]
              · rw [if_neg c3]
                exact next s ρ S Fr_rf (by rw [if_neg (fun w => c3 (by unfold caF at w; simp only [Bool.and_eq_true, decide_eq_true_eq] at w; exact w.2.2))])
            · rw [if_neg c2]
              exact next s ρ S Fr_rf (by rw [if_neg (fun w => c2 (by unfold caF at w; simp only [Bool.and_eq_true, decide_eq_true_eq] at w; exact w.2.1))])
          · have c1' : ¬ (fr ≤ b % 12 ∧ b % 12 ≤ to) := fun w => c1 ⟨nI_le w.1 (by omega), nI_le w.2 (by omega)⟩
            rw [if_neg c1]
            exact next s ρ S Fr_rf (by rw [if_neg (fun w => c1' (by unfold caF at w; simp only [Bool.and_eq_true, decide_eq_true_eq] at w; exact w.1))])
      obtain ⟨ρ', a1, a2, a3⟩ := loop 72 0 FU s ρ (by omega) (by unfold FU; omega) S
      refine ⟨ρ', ?_, a2, a3⟩
      show f12_tries_b (f12_tries g) ρ 101 (nI m) = _
      unfold f12_tries_b
      rw [gd_t (oL101 M), h5, if_neg ne, bd_s (isIn_s M S.2.1.1 m), if_pos c, if_neg (by decide)]
      exact a1
    · have eR : RM (wgF δ n (bitP B) h ice fr to wy) (bitP B) (caF n fr to my) (d + 1) m f s = RM (wgF δ n (bitP B) h ice fr to wy) (bitP B) (caF n fr to my) d (m + 1) f s := by
        show (if bitP B m = true then _ else _) = _
        rw [if_neg c]
      obtain ⟨ρ', a1, a2, a3⟩ := ih (m + 1) g f s ρ (by omega) (by omega) S (fun q h1 h2 h3 => hn1 q (by omega) h2 h3)
      refine ⟨ρ', ?_, a2, by rw [eR]; exact a3⟩
      show f12_tries_b (f12_tries g) ρ 101 (nI m) = _
      unfold f12_tries_b
      rw [gd_t (oL101 M), h5, if_neg ne, bd_s (isIn_s M S.2.1.1 m), if_neg c, if_pos rfl, nI_1, bd_s a1]
