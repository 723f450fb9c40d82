/-! TRIALS: which may be left out -/
theorem fbF_id {S : Type} {g : Nat → S → S} : ∀ (j b : Nat) (s : S), (∀ k, b ≤ k → k < b + j → g k s = s) → fbF g j b s = s := by
  intro j
  induction j with
  | zero => intro b s _; rfl
  | succ j ih =>
    intro b s h
    unfold fbF
    rw [h b (Nat.le_refl _) (by omega)]
    exact ih (b + 1) s (fun k h1 h2 => h k (by omega) (by omega))
/-- whatever comes of f is no better than s -/
theorem RM_no {wg : (Nat → Int32) → Int32} {p : Nat → Bool} {cd : Nat → Nat → (Nat → Int32) → Bool} {n : Nat} {v : Int32} (Q : Nat → (Nat → Int32) → Prop) (h1 : ∀ m f, m < n → Q m f → Q (m + 1) f) (h2 : ∀ m b f, m < n → p m = true → b < 72 → cd m b f = true → Q m f → Q (m + 1) (ud f m (nI b))) (h3 : ∀ f, Q n f → wg f ≤ v) :
    ∀ d m f s, m + d = n → Q m f → s.1 = v → RM wg p cd d m f s = s := by
  intro d
  induction d with
  | zero =>
    intro m f s hm q e
    have : m = n := by omega
    subst this
    show (if wg f ≤ s.1 then s else (wg f, f)) = s
    rw [if_pos (by rw [e]; exact h3 f q)]
  | succ d ih =>
    intro m f s hm q e
    have i1 := ih (m + 1) f s (by omega) (h1 m f (by omega) q) e
    show (if p m = true then _ else _) = s
    by_cases c : p m = true
    · rw [if_pos c, fbF_id 72 0 s (fun b hb1 hb2 => by
        by_cases cb : cd m b f = true
        · rw [if_pos cb]
          exact ih (m + 1) (ud f m (nI b)) s (by omega) (h2 m b f (by omega) c (by omega) cb q) e
        · rw [if_neg cb])]
      exact i1
    · rw [if_neg c]; exact i1
/-- two runs from states as good as each other -/
def EqS (s t : Int32 × (Nat → Int32)) : Prop := s.1 = t.1 ∧ (s.1 = -1 ∨ s.2 = t.2)
theorem fbF_rel {S T : Type} {g : Nat → S → S} {h : Nat → T → T} {R : S → T → Prop} (hr : ∀ b s t, R s t → R (g b s) (h b t)) : ∀ j b s t, R s t → R (fbF g j b s) (fbF h j b t) := by
  intro j
  induction j with
  | zero => intro b s t r; exact r
  | succ j ih => intro b s t r; exact ih (b + 1) _ _ (hr b s t r)
theorem RM_eq {wg : (Nat → Int32) → Int32} {p : Nat → Bool} {cd : Nat → Nat → (Nat → Int32) → Bool} : ∀ d m f s t, EqS s t → EqS (RM wg p cd d m f s) (RM wg p cd d m f t) := by
  intro d
  induction d with
  | zero =>
    intro m f s t r
    show EqS (if wg f ≤ s.1 then s else (wg f, f)) (if wg f ≤ t.1 then t else (wg f, f))
    rw [← r.1]
    by_cases c : wg f ≤ s.1
    · rw [if_pos c, if_pos c]; exact r
    · rw [if_neg c, if_neg c]; exact ⟨rfl, Or.inr rfl⟩
  | succ d ih =>
    intro m f s t r
    show EqS (if p m = true then _ else _) (if p m = true then _ else _)
    by_cases c : p m = true
    · rw [if_pos c, if_pos c]
      refine ih (m + 1) f _ _ (fbF_rel (R := EqS) (fun b s t q => ?_) 72 0 s t r)
      by_cases cb : cd m b f = true
      · rw [if_pos cb, if_pos cb]; exact ih (m + 1) _ s t q
      · rw [if_neg cb, if_neg cb]; exact q
    · rw [if_neg c, if_neg c]; exact ih (m + 1) f s t r
theorem RM_t {wg : (Nat → Int32) → Int32} {p : Nat → Bool} {cd : Nat → Nat → (Nat → Int32) → Bool} {d m : Nat} {f : Nat → Int32} {s : Int32 × (Nat → Int32)} (c : p m = true) : RM wg p cd (d + 1) m f s = RM wg p cd d (m + 1) f (fbF (fun b s => if cd m b f = true then RM wg p cd d (m + 1) (ud f m (nI b)) s else s) 72 0 s) := by
  show (if p m = true then _ else _) = _
  rw [if_pos c]
theorem RM_n {wg : (Nat → Int32) → Int32} {p : Nat → Bool} {cd : Nat → Nat → (Nat → Int32) → Bool} {d m : Nat} {f : Nat → Int32} {s : Int32 × (Nat → Int32)} (c : ¬ p m = true) : RM wg p cd (d + 1) m f s = RM wg p cd d (m + 1) f s := by
  show (if p m = true then _ else _) = _
  rw [if_neg c]
/-- the best is a trial -/
theorem RM_P {wg : (Nat → Int32) → Int32} {p : Nat → Bool} {cd : Nat → Nat → (Nat → Int32) → Bool} {n : Nat} (P : (Nat → Int32) → Prop) (h2 : ∀ m b f, m < n → p m = true → b < 72 → cd m b f = true → P f → P (ud f m (nI b))) :
    ∀ d m f s, m + d = n → P f → (s.1 = -1 ∨ P s.2) → (RM wg p cd d m f s).1 = -1 ∨ P (RM wg p cd d m f s).2 := by
  intro d
  induction d with
  | zero =>
    intro m f s _ pf r
    show (if wg f ≤ s.1 then s else (wg f, f)).1 = -1 ∨ P (if wg f ≤ s.1 then s else (wg f, f)).2
    by_cases c : wg f ≤ s.1
    · rw [if_pos c]; exact r
    · rw [if_neg c]; exact Or.inr pf
  | succ d ih =>
    intro m f s hm pf r
    have lo : p m = true → ∀ j b s, b + j = 72 → (s.1 = -1 ∨ P s.2) → (fbF (fun b s => if cd m b f = true then RM wg p cd d (m + 1) (ud f m (nI b)) s else s) j b s).1 = -1 ∨ P (fbF (fun b s => if cd m b f = true then RM wg p cd d (m + 1) (ud f m (nI b)) s else s) j b s).2 := by
      intro c j
      induction j with
      | zero => intro b s _ r; exact r
      | succ j jh =>
        intro b s hb r
        refine jh (b + 1) _ (by omega) ?_
        dsimp only
        by_cases cb : cd m b f = true
        · rw [if_pos cb]; exact ih (m + 1) _ s (by omega) (h2 m b f (by omega) c (by omega) cb pf) r
        · rw [if_neg cb]; exact r
    by_cases c : p m = true
    · rw [RM_t c]
      exact ih (m + 1) f _ (by omega) pf (lo c 72 0 s rfl r)
    · rw [RM_n c]; exact ih (m + 1) f s (by omega) pf r
/-- lanes that close don't open a way -/
theorem runF_mo {o q : Nat → Bool} (h : ∀ i, o i = true → q i = true) : ∀ i, runF o i ≤ runF q i := by
  intro i
  induction i with
  | zero => exact Nat.le_refl _
  | succ i ih =>
    unfold runF
    by_cases c : o i = true
    · rw [if_pos c, if_pos (h i c)]; omega
    · rw [if_neg c]; omega
theorem mostF_mo {o q : Nat → Bool} (h : ∀ i, o i = true → q i = true) (i : Nat) : mostF o i ≤ mostF q i := by
  obtain ⟨j, h1, h2⟩ := mostF_at (o := o) i
  rw [h2]
  exact Nat.le_trans (runF_mo h j) (mostF_ge i j h1)
/-- none lies at x -/
theorem ly_no {f : Nat → Int32} {x : Int32} {n : Nat} (n6 : n ≤ 6) : lyF f x n 0 = -1 ↔ ∀ o, o < n → f o ≠ x := by
  rcases lyF_sp (f := f) (b := x) n 0 with ⟨h1, h2⟩ | ⟨k, h1, h2, h3, h4, -⟩
  · exact ⟨fun _ o ho => h2 o (by omega) (by omega), fun _ => h1⟩
  · rw [h3]
    exact ⟨fun w => absurd w (nI_m1 (by omega)), fun w => absurd h4 (w k (by omega))⟩
theorem ly_mo {f g : Nat → Int32} {b n : Nat} (n6 : n ≤ 6) (hb : b < 72) (ms : MS n f g) (h : lyF g (nI b) n 0 = -1) : lyF f (nI b) n 0 = -1 := by
  rw [ly_no n6] at h ⊢
  intro o ho e
  exact h o ho (by rw [ms o ho (by rw [e]; exact nI_pos' (by omega)), e])
theorem op_mo {δ : St} {f g : Nat → Int32} {n s : Nat} {h : Int32} (n6 : n ≤ 6) (hs : s < 12) (ms : MS n f g) : ∀ i, i < 6 → opF δ n g s h i = true → opF δ n f s h i = true := by
  intro i hi w
  unfold opF at w ⊢
  have w := of_decide_eq_true w
  exact decide_eq_true ⟨w.1, ly_mo n6 (by omega) ms w.2⟩
theorem runF_mo6 {o q : Nat → Bool} {l : Nat} (h : ∀ i, i < l → o i = true → q i = true) : ∀ i, i ≤ l → runF o i ≤ runF q i := by
  intro i
  induction i with
  | zero => intro _; exact Nat.le_refl _
  | succ i ih =>
    intro hi
    unfold runF
    have := ih (by omega)
    by_cases c : o i = true
    · rw [if_pos c, if_pos (h i (by omega) c)]; omega
    · rw [if_neg c]; omega
theorem most_mo {δ : St} {f g : Nat → Int32} {n s : Nat} {h : Int32} (n6 : n ≤ 6) (hs : s < 12) (ms : MS n f g) : mostF (opF δ n g s h) 6 ≤ mostF (opF δ n f s h) 6 := by
  obtain ⟨j, h1, h2⟩ := mostF_at (o := opF δ n g s h) 6
  rw [h2]
  exact Nat.le_trans (runF_mo6 (l := 6) (op_mo n6 hs ms) j h1) (mostF_ge 6 j h1)
/-- a mill put elsewhere leaves a stretch as it is -/
theorem op_put {δ : St} {f : Nat → Int32} {n s m b : Nat} {h : Int32} (n6 : n ≤ 6) (hs : s < 12) (hb : b < 72) (hm : f m = -1) (hne : b % 12 ≠ s) : ∀ i, i < 6 → opF δ n (ud f m (nI b)) s h i = opF δ n f s h i := by
  intro i hi
  unfold opF
  have : lyF (ud f m (nI b)) (nI (12 * i + s)) n 0 = -1 ↔ lyF f (nI (12 * i + s)) n 0 = -1 := by
    rw [ly_no n6, ly_no n6]
    unfold ud
    constructor
    · intro w o ho
      by_cases e : o = m
      · rw [e, hm]; exact fun q => nI_m1 (by omega) q.symm
      · have := w o ho; rw [if_neg e] at this; exact this
    · intro w o ho
      by_cases e : o = m
      · rw [if_pos e]; intro q; have := (nI_eq (by omega) (by omega)).mp q; omega
      · rw [if_neg e]; exact w o ho
  by_cases c : lyF f (nI (12 * i + s)) n 0 = -1
  · simp only [this.mpr c, c]
  · have c' : ¬ lyF (ud f m (nI b)) (nI (12 * i + s)) n 0 = -1 := fun w => c (this.mp w)
    rw [decide_eq_false (fun w => c' w.2), decide_eq_false (fun w => c w.2)]
theorem MS_put {n m : Nat} {f : Nat → Int32} {x : Int32} (hm : f m = -1) : MS n f (ud f m x) := fun o _ h0 => by
  unfold ud
  by_cases e : o = m
  · rw [e, hm] at h0; exact absurd h0 (by decide)
  · rw [if_neg e]
theorem MS_tr {n : Nat} {f g k : Nat → Int32} (h1 : MS n f g) (h2 : MS n g k) : MS n f k := fun o ho h0 => by
  have e := h1 o ho h0
  rw [h2 o ho (by rw [e]; exact h0), e]
theorem Lf_put {n m b : Nat} {f : Nat → Int32} (l : Lf n f) (hb : b < 72) : Lf n (ud f m (nI b)) := fun o ho => by
  unfold ud
  by_cases e : o = m
  · rw [if_pos e]; exact Or.inr (Or.inr ⟨b, hb, rfl⟩)
  · rw [if_neg e]; exact l o ho
