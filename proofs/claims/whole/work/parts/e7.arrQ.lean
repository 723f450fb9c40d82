theorem loop_q {δ : St} {n b lv : Nat} {h : Int32} {pt f : Nat → Int32} (F : St → Nat → Int32 → Option (Int32 × St)) (G : St → Nat → Int32 → Int32 → Option (Int32 × St)) (hh : Hh h) (hl : lv < 3) (l : LO n f) (pf : ∀ m, m < n → bitP (nI b) m = true → f m = -1 ∨ ∃ s, s < 72 ∧ f m = nI s) (pp : ∀ m, m < n → bitP (nI b) m = true → pt m = -1 ∨ ∃ s, s < 72 ∧ pt m = nI s)
    (IH : ∀ m, m < n → mpB b pt f m = true → LO n (ud f m (pt m)) → ARR δ n b h pt F G (lv + 1) (ud f m (pt m))) : ∀ (j m fc fr : Nat) (fl : Int32) (σ ρ : St), m + j = n → j + 6 < fc → j < fr → PA δ n b h pt f σ → PQr δ n b pt f ρ → (fl = 0 ∨ fl = 1) → (fl = 0 ∨ ∃ k, m ≤ k ∧ k < n ∧ mpB b pt f k = true) →
    DON δ n b lv h pt f σ ρ (f5_arrange_p4 F fc σ 94 (nI lv) fl (nI m)) (f12_orders_p62 G fr ρ 101 (nI lv) h (nI m)) := by
  intro j
  induction j with
  | zero =>
    intro m fc fr fl σ ρ hm hfc hfr P Q hfl am
    obtain ⟨g, rfl, -⟩ := suc_of hfr
    have n6 := P.1.2.2.2.1
    have e : m = n := by omega
    have f0 : fl = 0 := by
      rcases am with w | ⟨k, h1, h2, -⟩
      · exact w
      · exact absurd h2 (by omega)
    refine ⟨0, σ, ρ, ?_, ?_, Fr_rf, Fr_rf, P, Q, fun _ _ => ⟨rfl, rfl, rfl, rfl⟩, Or.inl rfl⟩
    · rw [p4_end F P hfl (6 - m) m fc (by omega) (by omega) (fun k h1 h2 => absurd h2 (by omega)), if_pos f0]
    · rw [f12_orders_p62, gd_t (oL101 Q.1.1.1), Q.1.1.2.2.2.2.2.1, if_neg (nI_nlt (by omega) (by omega))]
  | succ j ih =>
    intro m fc fr fl σ ρ hm hfc hfr P Q hfl am
    obtain ⟨g, rfl, -⟩ := suc_of hfr
    obtain ⟨c, rfl, -⟩ := suc_of hfc
    have n6 := P.1.2.2.2.1
    by_cases mp : mpB b pt f m = true
    · obtain ⟨r, σ1, ρ1, a1, a2, a3, a4, a5, a6, a7, a8⟩ := with_q F G (f5_arrange_p4 F c) P Q hh (show m < n by omega) hl mp l pf pp (IH m (by omega) mp)
      rw [p4_mis F P (by omega) hl mp, bd_s a1, a2]
      rcases a8 with e | ⟨e, a8⟩
      · rw [if_pos e, if_pos e]
        exact DON_tr a3 a4 a7 (ih (m + 1) c g 0 σ1 ρ1 (by omega) (by omega) (by omega) a5 a6 (Or.inl rfl) (Or.inl rfl))
      · have n0 : ¬ r = 0 := by rw [e]; decide
        rw [if_neg n0, if_neg n0]
        exact ⟨1, σ1, ρ1, rfl, rfl, a3, a4, a5, a6, a7, Or.inr ⟨rfl, a8⟩⟩
    · have eM : f12_orders_p62 G (g + 1) ρ 101 (nI lv) h (nI m) = f12_orders_p62 G g ρ 101 (nI lv) h (nI (m + 1)) := by
        have M := Q.1.1.1
        have next : f12_orders_p206 G (f12_orders_p62 G g) ρ 101 (nI lv) h (nI m) = f12_orders_p62 G g ρ 101 (nI lv) h (nI (m + 1)) := by
          unfold f12_orders_p206
          rw [lt_b, nI_1]
        rw [f12_orders_p62, gd_t (oL101 M), Q.1.1.2.2.2.2.2.1, if_pos (nI_lt (by omega) (by omega)), bd_s (isIn_s M Q.2.1 m), ite_B]
        by_cases hp : bitP (nI b) m = true
        · have e : f m = pt m := by
            by_cases q : f m = pt m
            · exact q
            · exact absurd (mpB_t.mpr ⟨hp, q⟩) mp
          rw [if_pos hp, lt_b, rL101_9 M, gd_t nz_s, gd_t (oL109 M), gd_t (inb_n (lL109 M) (by omega) (by decide)), lt_b, rL101_63 M, gd_t nz_s, gd_t (oL144 M), gd_t (inb_n (lL144 M) (by omega) (by decide)), ix_n (by omega), Q.1.2 m (by omega), Q.2.2 m (by omega) hp, if_pos e, next]
        · rw [if_neg hp, next]
      rw [p4_skip F P (by omega) mp, eM]
      refine ih (m + 1) c g fl σ ρ (by omega) (by omega) (by omega) P Q hfl ?_
      rcases am with w | ⟨k, h1, h2, h3⟩
      · exact Or.inl w
      · refine Or.inr ⟨k, ?_, h2, h3⟩
        rcases Nat.lt_or_ge k (m + 1) with lt | ge
        · have : k = m := by omega
          rw [this] at h3
          exact absurd h3 mp
        · exact ge
theorem ctP_z {q : Nat → Bool} {n : Nat} (h : ctP q n = 0) : ∀ k, k < n → ¬ q k = true := fun k hk c => by
  have := ctP_lt (q := q) hk c
  omega
theorem arr_q {δ : St} {n b : Nat} {h : Int32} {pt : Nat → Int32} (hh : Hh h) (n6 : n ≤ 6) (pp : ∀ m, m < n → bitP (nI b) m = true → pt m = -1 ∨ ∃ s, s < 72 ∧ pt m = nI s) :
    ∀ (c lv fc fr : Nat) (f : Nat → Int32), ctP (mpB b pt f) n = c → lv + c ≤ 3 → c < fc → c < fr → LO n f → (∀ m, m < n → bitP (nI b) m = true → f m = -1 ∨ ∃ s, s < 72 ∧ f m = nI s) → ARR δ n b h pt (f5_arrange fc) (f12_orders fr) lv f := by
  intro c
  induction c with
  | zero =>
    intro lv fc fr f hc hlv hfc hfr l pf σ ρ P Q
    obtain ⟨gc, rfl, -⟩ := suc_of hfc
    obtain ⟨gr, rfl, -⟩ := suc_of hfr
    have no := ctP_z hc
    have L := P.1.1
    have M := Q.1.1.1
    have e1 : f5_arrange (gc + 1) σ 94 (nI lv) = some (1, wI σ 94 9 (nI lv)) := by
      show f5_arrange_b (f5_arrange gc) σ 94 (nI lv) = _
      unfold f5_arrange_b
      have := p4_end (f5_arrange gc) (v1 := nI lv) (fl := 1) P (Or.inr rfl) 6 0 FU (by omega) (by unfold FU; omega) (fun k _ h2 => no k h2)
      rw [if_neg (by decide)] at this
      exact this
    have e2 : f12_orders (gr + 1) ρ 101 (nI lv) h = some (1, wI ρ 101 76 (nI lv)) := by
      show f12_orders_b (f12_orders gr) ρ 101 (nI lv) h = _
      unfold f12_orders_b
      exact (p5_all (f12_orders gr) (h := h) (v1 := nI lv) Q n 0 FU 1 (by omega) (by unfold FU; omega) (Or.inr rfl)).2 ⟨rfl, fun k _ h2 => no k h2⟩
    have F1 : Fr Wac σ (wI σ 94 9 (nI lv)) := Fr_wI Fr_rf (Or.inl (by unfold Wac; omega))
    have G1 : Fr Wao ρ (wI ρ 101 76 (nI lv)) := Fr_wI Fr_rf (Or.inl (by unfold Wao; omega))
    refine ⟨1, _, _, e1, e2, F1, G1, PA_ac F1 (fun k hk => by rw [sI_wo (by decide)]; exact P.1.2.2.2.2.2 k hk) P, PQ_ao G1 (fun k hk => by rw [sI_wo (by decide)]; exact Q.1.2 k hk) Q, fun k hk => ⟨by rw [sI_wo (by decide)], by rw [sI_wo (by decide)], by rw [sI_wo (by decide)], by rw [sI_wo (by decide)]⟩, Or.inr ⟨rfl, lv, ⟨Nat.le_refl _, by omega⟩, sI_w1 _ _ _ _, sI_w1 _ _ _ _, fun k h1 h2 => absurd h2 (by omega), fun m hm mp => absurd mp (no m hm), LO_congr (fun m hm => ?_) l⟩⟩
    unfold gF
    by_cases hp : bitP (nI b) m = true
    · rw [if_pos hp]
      by_cases q : f m = pt m
      · exact q.symm
      · exact absurd (mpB_t.mpr ⟨hp, q⟩) (no m hm)
    · rw [if_neg hp]
  | succ c ih =>
    intro lv fc fr f hc hlv hfc hfr l pf σ ρ P Q
    obtain ⟨gc, rfl, -⟩ := suc_of hfc
    obtain ⟨gr, rfl, -⟩ := suc_of hfr
    obtain ⟨k, hk, mk, -⟩ := ctP_ex (q := mpB b pt f) (l := 0) n (by omega)
    have e2 : f12_orders (gr + 1) ρ 101 (nI lv) h = f12_orders_p62 (f12_orders gr) FU ρ 101 (nI lv) h 0 := by
      show f12_orders_b (f12_orders gr) ρ 101 (nI lv) h = _
      unfold f12_orders_b
      exact (p5_all (f12_orders gr) (h := h) (v1 := nI lv) Q n 0 FU 1 (by omega) (by unfold FU; omega) (Or.inr rfl)).1 (Or.inr ⟨k, by omega, hk, mk⟩)
    rw [e2]
    refine loop_q (f5_arrange gc) (f12_orders gr) hh (by omega) l pf pp (fun m hm mp l' => ?_) n 0 FU FU 1 σ ρ (by omega) (by unfold FU; omega) (by unfold FU; omega) P Q (Or.inr rfl) (Or.inr ⟨k, by omega, hk, mk⟩)
    have hp := (mpB_t.mp mp).1
    refine ih (lv + 1) gc gr (ud f m (pt m)) ?_ (by omega) (by omega) (by omega) l' (fun q hq hpq => ?_)
    · have one := ctP_one (p := mpB b pt (ud f m (pt m))) (q := mpB b pt f) (w := m) (fun w => (mpB_t.mp w).2 (by unfold ud; rw [if_pos rfl])) mp (fun q hq => by
        unfold mpB ud
        rw [if_neg hq]) n
      rw [if_pos hm, hc] at one
      omega
    · unfold ud
      by_cases e : q = m
      · rw [if_pos e]; exact pp m hm hp
      · rw [if_neg e]; exact pf q hq hpq
