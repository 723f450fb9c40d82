/-! BOUNDS of trials -/
def siF (g : Nat → Int) : Nat → Int
  | 0 => 0
  | n + 1 => siF g n + g n
theorem siF_le {a b : Nat → Int} : ∀ n, (∀ o, o < n → a o ≤ b o) → siF a n ≤ siF b n := by
  intro n
  induction n with
  | zero => intro _; exact Int.le_refl _
  | succ n ih =>
    intro h
    have i := ih (fun o ho => h o (by omega))
    have j := h n (by omega)
    unfold siF
    omega
theorem siF_1 {a b : Nat → Int} {m : Nat} {c : Int} (hc : 0 ≤ c) : ∀ n, (∀ o, o < n → o ≠ m → a o ≤ b o) → (m < n → a m ≤ b m + c) → siF a n ≤ siF b n + c := by
  intro n
  induction n with
  | zero => intro _ _; show (0 : Int) ≤ 0 + c; omega
  | succ n ih =>
    intro h hm
    by_cases e : m = n
    · subst e
      have i := siF_le (a := a) (b := b) m (fun o ho => h o (by omega) (by omega))
      have j := hm (by omega)
      unfold siF
      omega
    · have i := ih (fun o ho => h o (by omega)) (fun q => hm (by omega))
      have j := h n (by omega) (fun q => e q.symm)
      unfold siF
      omega
theorem siF_sm {g : Nat → Int32} {M : Int} (hM : 0 ≤ M ∧ M ≤ 1000) : ∀ n, n ≤ 6 → (∀ o, o < n → 0 ≤ (g o).toInt ∧ (g o).toInt ≤ M) → (smF g n).toInt = siF (fun o => (g o).toInt) n ∧ 0 ≤ siF (fun o => (g o).toInt) n ∧ siF (fun o => (g o).toInt) n ≤ M * n := by
  intro n
  induction n with
  | zero => intro _ _; exact ⟨rfl, Int.le_refl _, by show (0 : Int) ≤ M * ((0 : Nat) : Int); omega⟩
  | succ n ih =>
    intro hn h
    obtain ⟨a1, a2, a3⟩ := ih (by omega) (fun o ho => h o (by omega))
    obtain ⟨b1, b2⟩ := h n (by omega)
    have e : M * ((n + 1 : Nat) : Int) = M * n + M := by
      rw [show ((n + 1 : Nat) : Int) = (n : Int) + 1 from rfl, Int.mul_add, Int.mul_one]
    have m6 : M * n ≤ 1000 * 6 := Int.mul_le_mul hM.2 (by omega) (by omega) (by omega)
    unfold smF siF
    rw [e, t_add (by omega) (by omega), a1]
    exact ⟨rfl, by omega, by omega⟩
/-- the top of a choice; of all choices of a mill; of all mills from m on -/
def ctF (δ : St) (n : Nat) (h : Int32) (f0 : Nat → Int32) (m b : Nat) : Int32 := tqF δ n (ud f0 m (nI b)) m h
def tmF (δ : St) (n : Nat) (h : Int32) (f0 : Nat → Int32) (ch : Nat → Nat → Bool) (m : Nat) : Int32 := fbF (fun b a => if ch m b = true then mxI a (ctF δ n h f0 m b) else a) 72 0 0
def ltD (tm : Nat → Int32) (p : Nat → Bool) : Nat → Nat → Int32
  | 0, _ => 0
  | d + 1, m => if p m = true then ltD tm p d (m + 1) + tm m else ltD tm p d (m + 1)
theorem ltD_rg {tm : Nat → Int32} {p : Nat → Bool} : ∀ d m, d ≤ 6 → (∀ q, m ≤ q → q < m + d → 0 ≤ (tm q).toInt ∧ (tm q).toInt ≤ 400) → 0 ≤ (ltD tm p d m).toInt ∧ (ltD tm p d m).toInt ≤ 400 * d := by
  intro d
  induction d with
  | zero => intro m _ _; exact ⟨by show 0 ≤ (0 : Int32).toInt; decide, by show (0 : Int32).toInt ≤ _; have z : (0 : Int32).toInt = 0 := rfl; omega⟩
  | succ d ih =>
    intro m hd h
    obtain ⟨a1, a2⟩ := ih (m + 1) (by omega) (fun q h1 h2 => h q (by omega) (by omega))
    obtain ⟨b1, b2⟩ := h m (by omega) (by omega)
    unfold ltD
    by_cases c : p m = true
    · rw [if_pos c, t_add (by omega) (by omega)]; omega
    · rw [if_neg c]; omega
theorem ltD_t {tm : Nat → Int32} {p : Nat → Bool} {d m : Nat} (hd : d < 6) (h : ∀ q, m ≤ q → q < m + (d + 1) → 0 ≤ (tm q).toInt ∧ (tm q).toInt ≤ 400) (c : p m = true) : (ltD tm p (d + 1) m).toInt = (ltD tm p d (m + 1)).toInt + (tm m).toInt := by
  obtain ⟨a1, a2⟩ := ltD_rg (tm := tm) (p := p) d (m + 1) (by omega) (fun q h1 h2 => h q (by omega) (by omega))
  obtain ⟨b1, b2⟩ := h m (by omega) (by omega)
  show (if p m = true then _ else _ : Int32).toInt = _
  rw [if_pos c, t_add (by omega) (by omega)]
theorem fb_mx {ch : Nat → Bool} {ct : Nat → Int32} {M : Int} : ∀ j b (a : Int32), 0 ≤ a.toInt → a.toInt ≤ M → (∀ k, b ≤ k → k < b + j → ch k = true → (ct k).toInt ≤ M) →
    a.toInt ≤ (fbF (fun b a => if ch b = true then mxI a (ct b) else a) j b a).toInt ∧ (fbF (fun b a => if ch b = true then mxI a (ct b) else a) j b a).toInt ≤ M ∧ ∀ k, b ≤ k → k < b + j → ch k = true → (ct k).toInt ≤ (fbF (fun b a => if ch b = true then mxI a (ct b) else a) j b a).toInt := by
  intro j
  induction j with
  | zero => intro b a _ h2 _; exact ⟨Int.le_refl _, h2, fun k h1 h2 => absurd h2 (by omega)⟩
  | succ j ih =>
    intro b a h1 h2 h3
    unfold fbF
    by_cases c : ch b = true
    · have s1 : 0 ≤ (mxI a (ct b)).toInt := Int.le_trans h1 mx_l
      have s2 : (mxI a (ct b)).toInt ≤ M := mx_P (P := fun x => x.toInt ≤ M) h2 (h3 b (by omega) (by omega) c)
      obtain ⟨a1, a2, a3⟩ := ih (b + 1) (mxI a (ct b)) s1 s2 (fun k q1 q2 => h3 k (by omega) (by omega))
      rw [if_pos c]
      refine ⟨Int.le_trans mx_l a1, a2, fun k q1 q2 q3 => ?_⟩
      by_cases e : k = b
      · rw [e]; exact Int.le_trans mx_r a1
      · exact a3 k (by omega) (by omega) q3
    · obtain ⟨a1, a2, a3⟩ := ih (b + 1) a h1 h2 (fun k q1 q2 => h3 k (by omega) (by omega))
      rw [if_neg c]
      refine ⟨a1, a2, fun k q1 q2 q3 => ?_⟩
      by_cases e : k = b
      · rw [e] at q3; exact absurd q3 c
      · exact a3 k (by omega) (by omega) q3
theorem ct_rg {δ : St} {n m b : Nat} {h : Int32} {f0 : Nat → Int32} (T : TPh δ n) (lf : Lf n f0) (hm : m < n) (hb : b < 72) : 0 ≤ (ctF δ n h f0 m b).toInt ∧ (ctF δ n h f0 m b).toInt ≤ 400 := by
  have := tp_mo (h := h) T (Lf_put (m := m) lf hb) (Lf_put (m := m) lf hb) (fun _ _ _ => rfl) hm rfl
  exact ⟨this.1, this.2.2⟩
theorem tm_rg {δ : St} {n m : Nat} {h : Int32} {f0 : Nat → Int32} {ch : Nat → Nat → Bool} (T : TPh δ n) (lf : Lf n f0) (hm : m < n) : (0 ≤ (tmF δ n h f0 ch m).toInt ∧ (tmF δ n h f0 ch m).toInt ≤ 400) ∧ ∀ b, b < 72 → ch m b = true → (ctF δ n h f0 m b).toInt ≤ (tmF δ n h f0 ch m).toInt := by
  have z : (0 : Int32).toInt = 0 := rfl
  obtain ⟨a1, a2, a3⟩ := fb_mx (ch := ch m) (ct := ctF δ n h f0 m) (M := 400) 72 0 0 (by omega) (by omega) (fun k _ h2 _ => (ct_rg T lf hm (by omega)).2)
  exact ⟨⟨by unfold tmF; omega, a2⟩, fun b hb c => a3 b (by omega) (by omega) c⟩
/-- what all trials of f from m on are not above -/
def Qb (δ : St) (n : Nat) (p : Nat → Bool) (h : Int32) (f0 : Nat → Int32) (tm : Nat → Int32) (v : Int32) (m : Nat) (f : Nat → Int32) : Prop :=
  Lf n f ∧ MS n f0 f ∧ (∀ q, m ≤ q → q < n → p q = true → f q = -1) ∧ siF (fun o => (tqF δ n f o h).toInt) n + (ltD tm p (n - m) m).toInt ≤ v.toInt
theorem Qb_put {δ : St} {n m b : Nat} {p : Nat → Bool} {h : Int32} {f0 f : Nat → Int32} (T : TPh δ n) (hm : m < n) (hb : b < 72) (lf0 : Lf n f0) (lf : Lf n f) (ms : MS n f0 f) (fm : f m = -1) :
    siF (fun o => (tqF δ n (ud f m (nI b)) o h).toInt) n ≤ siF (fun o => (tqF δ n f o h).toInt) n + (ctF δ n h f0 m b).toInt := by
  have z : (0 : Int32).toInt = 0 := rfl
  have lg := Lf_put (m := m) (b := b) lf hb
  refine siF_1 (m := m) (ct_rg T lf0 hm hb).1 n (fun o ho hne => ?_) (fun _ => ?_)
  · exact (tp_mo T lf lg (MS_put fm) ho (by unfold ud; rw [if_neg hne])).2.1
  · have e : tqF δ n f m h = 0 := tp_no (by rw [fm]; decide)
    show (tqF δ n (ud f m (nI b)) m h).toInt ≤ (tqF δ n f m h).toInt + _
    rw [e, z, Int.zero_add]
    refine (tp_mo T (Lf_put lf0 hb) lg (fun o ho h0 => ?_) hm ?_).2.1
    · unfold ud at h0 ⊢
      by_cases q : o = m
      · rw [if_pos q, if_pos q]
      · rw [if_neg q] at h0 ⊢; rw [if_neg q]; exact ms o ho h0
    · unfold ud; rw [if_pos rfl, if_pos rfl]
theorem wg_le {δ : St} {n fr to : Nat} {p : Nat → Bool} {h ice : Int32} {wy : Nat → Nat} {f : Nat → Int32} {v : Int32} (T : TPh δ n) (lf : Lf n f) (hv : siF (fun o => (tqF δ n f o h).toInt) n ≤ v.toInt) : wgF δ n p h ice fr to wy f ≤ v := by
  have q : ∀ o, o < n → 0 ≤ (pwP δ n f o h).toInt ∧ (pwP δ n f o h).toInt ≤ 400 := fun o ho => by
    have a := pw_tp (h := h) T lf ho
    have b := tp_mo (h := h) T lf lf (fun _ _ _ => rfl) ho rfl
    exact ⟨a.1, by omega⟩
  obtain ⟨a1, a2, a3⟩ := siF_sm (g := fun o => pwP δ n f o h) (M := 400) ⟨by decide, by decide⟩ n T.2.1 q
  have le := siF_le (a := fun o => (pwP δ n f o h).toInt) (b := fun o => (tqF δ n f o h).toInt) n (fun o ho => (pw_tp T lf ho).2)
  have m1 : (-1 : Int32).toInt = -1 := rfl
  unfold wgF
  rw [t_le]
  by_cases c : allB (okP δ n p h ice f) n = true ∧ allB (okW δ n h fr to wy f) 12 = true
  · rw [if_pos c, a1]; omega
  · rw [if_neg c, m1]; omega
/-- trials that are bounded -/
theorem RM_bound {δ : St} {n fr to : Nat} {p : Nat → Bool} {h ice : Int32} {wy : Nat → Nat} {my : Nat → Nat → Bool} {f0 : Nat → Int32} (T : TPh δ n) (lf0 : Lf n f0) {d m : Nat} {f : Nat → Int32} {s : Int32 × (Nat → Int32)} (hm : m + d = n) (lf : Lf n f) (ms : MS n f0 f) (fm : ∀ q, m ≤ q → q < n → p q = true → f q = -1)
    (hv : siF (fun o => (tqF δ n f o h).toInt) n + (ltD (tmF δ n h f0 (fun m b => caF n fr to my m b f0)) p d m).toInt ≤ s.1.toInt) : RM (wgF δ n p h ice fr to wy) p (caF n fr to my) d m f s = s := by
  have n6 := T.2.1
  have tr : ∀ q, q < n → 0 ≤ (tmF δ n h f0 (fun m b => caF n fr to my m b f0) q).toInt ∧ (tmF δ n h f0 (fun m b => caF n fr to my m b f0) q).toInt ≤ 400 := fun q hq => (tm_rg T lf0 hq).1
  refine RM_no (n := n) (v := s.1) (Qb δ n p h f0 (tmF δ n h f0 (fun m b => caF n fr to my m b f0)) s.1) (fun m f hmn q => ?_) (fun m b f hmn pm hb cd q => ?_) (fun f q => ?_) d m f s hm ⟨lf, ms, fm, by rw [show n - m = d by omega]; exact hv⟩ rfl
  · obtain ⟨q1, q2, q3, q4⟩ := q
    refine ⟨q1, q2, fun k h1 h2 h3 => q3 k (by omega) h2 h3, ?_⟩
    rw [show n - m = (n - (m + 1)) + 1 by omega] at q4
    by_cases c : p m = true
    · rw [ltD_t (by omega) (fun q _ h2 => tr q (by omega)) c] at q4
      have := (tr m hmn).1
      omega
    · have e : ltD (tmF δ n h f0 (fun m b => caF n fr to my m b f0)) p (n - (m + 1) + 1) m = ltD (tmF δ n h f0 (fun m b => caF n fr to my m b f0)) p (n - (m + 1)) (m + 1) := by
        show (if p m = true then _ else _ : Int32) = _
        rw [if_neg c]
      rw [e] at q4
      exact q4
  · obtain ⟨q1, q2, q3, q4⟩ := q
    have fm1 := q3 m (Nat.le_refl _) hmn pm
    have c0 : caF n fr to my m b f0 = true := by
      unfold caF at cd ⊢
      simp only [Bool.and_eq_true, decide_eq_true_eq] at cd ⊢
      exact ⟨cd.1, cd.2.1, ly_mo n6 hb q2 cd.2.2⟩
    have ct := (tm_rg (h := h) (ch := fun m b => caF n fr to my m b f0) T lf0 hmn).2 b hb c0
    have pt := Qb_put (p := p) (h := h) T hmn hb lf0 q1 q2 fm1
    refine ⟨Lf_put q1 hb, MS_tr q2 (MS_put fm1), fun k h1 h2 h3 => ?_, ?_⟩
    · unfold ud; rw [if_neg (by omega)]; exact q3 k (by omega) h2 h3
    · rw [show n - m = (n - (m + 1)) + 1 by omega, ltD_t (by omega) (fun q _ h2 => tr q (by omega)) pm] at q4
      omega
  · obtain ⟨q1, -, -, q4⟩ := q
    have := (ltD_rg (tm := tmF δ n h f0 (fun m b => caF n fr to my m b f0)) (p := p) (n - n) n (by omega) (fun q h1 h2 => absurd h2 (by omega))).1
    exact wg_le T q1 (by omega)
/-- trials in which a way isn't kept -/
theorem RM_shut {δ : St} {n fr to s0 : Nat} {p : Nat → Bool} {h ice : Int32} {wy : Nat → Nat} {my : Nat → Nat → Bool} {d m : Nat} {f : Nat → Int32} {s : Int32 × (Nat → Int32)} (n6 : n ≤ 6) (t11 : to ≤ 11) (h1 : fr ≤ s0) (h2 : s0 ≤ to) (hm : m + d = n) (fm : ∀ q, m ≤ q → q < n → p q = true → f q = -1)
    (sh : ¬ wy s0 ≤ mostF (opF δ n f s0 h) 6) (hv : -1 ≤ s.1.toInt) : RM (wgF δ n p h ice fr to wy) p (caF n fr to my) d m f s = s := by
  refine RM_no (n := n) (v := s.1) (fun m f => (∀ q, m ≤ q → q < n → p q = true → f q = -1) ∧ ¬ wy s0 ≤ mostF (opF δ n f s0 h) 6) (fun m f _ q => ⟨fun k a b c => q.1 k (by omega) b c, q.2⟩) (fun m b f hmn pm hb _ q => ⟨fun k a b c => ?_, fun w => q.2 ?_⟩) (fun f q => ?_) d m f s hm ⟨fm, sh⟩ rfl
  · unfold ud; rw [if_neg (by omega)]; exact q.1 k (by omega) b c
  · have := most_mo (δ := δ) (h := h) (s := s0) n6 (by omega) (MS_put (n := n) (x := nI b) (q.1 m (Nat.le_refl _) hmn pm))
    omega
  · have m1 : (-1 : Int32).toInt = -1 := rfl
    unfold wgF
    rw [if_neg (fun w => q.2 ((okW_t t11).mp w.2 s0 h1 h2)), t_le, m1]
    exact hv
theorem RM_ge {wg : (Nat → Int32) → Int32} {p : Nat → Bool} {cd : Nat → Nat → (Nat → Int32) → Bool} : ∀ d m f s, s.1.toInt ≤ (RM wg p cd d m f s).1.toInt := by
  intro d
  induction d with
  | zero =>
    intro m f s
    show s.1.toInt ≤ (if wg f ≤ s.1 then s else (wg f, f)).1.toInt
    by_cases c : wg f ≤ s.1
    · rw [if_pos c]; exact Int.le_refl _
    · rw [if_neg c]; rw [t_le] at c; show _ ≤ (wg f).toInt; omega
  | succ d ih =>
    intro m f s
    by_cases c : p m = true
    · rw [RM_t c]
      have lo : ∀ j b (s : Int32 × (Nat → Int32)), s.1.toInt ≤ (fbF (fun b s => if cd m b f = true then RM wg p cd d (m + 1) (ud f m (nI b)) s else s) j b s).1.toInt := by
        intro j
        induction j with
        | zero => intro b s; exact Int.le_refl _
        | succ j jh =>
          intro b s
          refine Int.le_trans ?_ (jh (b + 1) _)
          dsimp only
          by_cases cb : cd m b f = true
          · rw [if_pos cb]; exact ih (m + 1) _ s
          · rw [if_neg cb]; exact Int.le_refl _
      exact Int.le_trans (lo 72 0 s) (ih (m + 1) f _)
    · rw [RM_n c]; exact ih (m + 1) f s
