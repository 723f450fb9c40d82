/-! GLUE for the written walks -/
def nz (b : Nat) : Bool := match b with | 0 => false | _ + 1 => true
theorem nz_ne {b : Nat} (h : nz b = true) : ¬ b = 0 := by intro e; subst e; cases h
def nzI (y : Int32) : Bool := !decide (y = 0)
theorem nzI_ne {y : Int32} (h : nzI y = true) : ¬ y = 0 := by simpa [nzI] using h
def isB (x : Int32) : Bool := decide (x = 0) || decide (x = 1)
theorem narB {x : Int32} (h : isB x = true) : narrow .boolean (.int x) = .int x := by
  simp only [isB, Bool.or_eq_true, decide_eq_true_eq] at h
  rcases h with rfl | rfl <;> decide
theorem narB2 {x : Int32} (h : isB x = true) : ∀ ad : Nat → Nat, narrow .boolean (sh ad (.int x)) = sh ad (.int x) ∧ fits .boolean (sh ad (.int x)) = true := by
  intro ad
  simp only [isB, Bool.or_eq_true, decide_eq_true_eq] at h
  rcases h with rfl | rfl
  · show narrow .boolean (.int 0) = .int 0 ∧ fits .boolean (.int 0) = true
    decide
  · show narrow .boolean (.int 1) = .int 1 ∧ fits .boolean (.int 1) = true
    decide
def lt {α β : Type} (a : α) (g : α → β) : β := g a
theorem lt_some {α β : Type} {a : α} {g : α → Option β} {y : β} (h : lt a g = some y) : ∃ x, x = a ∧ g x = some y := ⟨a, rfl, h⟩
def bd {α β : Type} (x : Option (α × St)) (g : α → St → Option β) : Option β := match x with | none => none | some p => g p.1 p.2
theorem bd_some {α β : Type} {x : Option (α × St)} {g : α → St → Option β} {y : β} (h : bd x g = some y) : ∃ a σ, x = some (a, σ) ∧ g a σ = some y := by
  cases x with
  | none => cases h
  | some p => exact ⟨p.1, p.2, rfl, h⟩
theorem ite_some {α : Type} {c : Prop} [Decidable c] {A B : Option α} {y : α} (h : (if c then A else B) = some y) : (c ∧ A = some y) ∨ (¬ c ∧ B = some y) := by
  by_cases hc : c
  · rw [if_pos hc] at h; exact Or.inl ⟨hc, h⟩
  · rw [if_neg hc] at h; exact Or.inr ⟨hc, h⟩
theorem ret_some {α β : Type} {a b : α} {σ τ : β} (h : some (a, σ) = some (b, τ)) : a = b ∧ σ = τ := by cases h; exact ⟨rfl, rfl⟩
def FU : Nat := 3000
def nv (k : Nat) : Value := if k = 0 then .null else .ref k
theorem nv_0 {k : Nat} (h : k = 0) : nv k = .null := if_pos h
theorem nv_1 {k : Nat} (h : ¬ k = 0) : nv k = .ref k := if_neg h
theorem ob_ne {σ : St} {a k : Nat} (h : ob σ a k = true) : ¬ a = 0 := by have := (ob_spec h).2.1; omega
theorem ne_new {b n : Nat} (h : b = n + 1) : ¬ b = 0 := by omega
theorem neI {x c : Int32} (h : ¬ x = c) : x.toInt ≠ c.toInt := fun q => h (Int32.toInt_inj.mp q)
theorem mono_eI {σ τ : St} {a k : Nat} {v : Int32} (e : τ = wI σ a k v) : Mono σ τ := by subst e; exact mono_rf
theorem mono_eL {σ τ : St} {a k : Nat} {v : Int64} (e : τ = wL σ a k v) : Mono σ τ := by subst e; exact mono_rf
theorem mono_eR {σ τ : St} {a k : Nat} {v : Nat} (e : τ = wR σ a k v) : Mono σ τ := by subst e; exact mono_rf
theorem mono_eC {σ τ : St} {a sp b dp n : Nat} (e : τ = wCp σ a sp b dp n) : Mono σ τ := by subst e; exact mono_rf
theorem mono_eN {σ τ : St} {k n : Nat} (e : τ = wN σ k n) : Mono σ τ := by subst e; exact mono_N
theorem mono_eM {σ τ : St} {n k : Nat} (e : τ = wM σ n k) : Mono σ τ := by
  subst e
  exact ⟨Nat.le_add_right _ _, Nat.le_add_right _ _, fun a ha => by
    show (if a = sN σ + 1 then _ else if sN σ + 1 < a ∧ _ then _ else _) = _
    rw [if_neg (by omega), if_neg (by omega)]⟩
theorem tr_I {σ τ : St} {a k a1 k1 : Nat} {v : Int32} {b : Nat} (e : τ = wI σ a k v) (h : b = sR σ a1 k1) : b = sR τ a1 k1 := by subst e; exact h
theorem tr_L {σ τ : St} {a k a1 k1 : Nat} {v : Int64} {b : Nat} (e : τ = wL σ a k v) (h : b = sR σ a1 k1) : b = sR τ a1 k1 := by subst e; exact h
theorem tr_C {σ τ : St} {a sp b9 dp n a1 k1 : Nat} {b : Nat} (e : τ = wCp σ a sp b9 dp n) (h : b = sR σ a1 k1) : b = sR τ a1 k1 := by subst e; exact h
theorem inb_m {σ τ : St} {a k : Nat} {i : Int32} (m : Mono σ τ) (o : ob σ a k = true) (h : inb σ a i = true) : inb τ a i = true := by
  unfold inb at h ⊢
  rw [m.2.2 a (ob_spec o).2.2]
  exact h
section
variable {d : Nat} {M : MD} {pc : Nat} {lv : List (Nat × Value)} {sk : List Value} {σ τ : St} {r : Option Value}
theorem ev_nmI {x y : Int32} (e : y = x) (k : Ev d M pc lv (.int y :: sk) σ r τ) : Ev d M pc lv (.int x :: sk) σ r τ := e ▸ k
theorem ev_nmL {x y : Int64} (e : y = x) (k : Ev d M pc lv (.long y :: sk) σ r τ) : Ev d M pc lv (.long x :: sk) σ r τ := e ▸ k
theorem ev_nmR {x y : Nat} (e : y = x) (k : Ev d M pc lv (.ref y :: sk) σ r τ) : Ev d M pc lv (.ref x :: sk) σ r τ := e ▸ k
theorem ev_nmS {ρ : St} (e : ρ = σ) (k : Ev d M pc lv sk ρ r τ) : Ev d M pc lv sk σ r τ := e ▸ k
theorem ev_nv0 {k : Nat} (h : k = 0) (q : Ev d M pc lv (.null :: sk) σ r τ) : Ev d M pc lv (nv k :: sk) σ r τ := by rw [nv_0 h]; exact q
theorem ev_nv1 {k : Nat} (h : ¬ k = 0) (q : Ev d M pc lv (.ref k :: sk) σ r τ) : Ev d M pc lv (nv k :: sk) σ r τ := by rw [nv_1 h]; exact q
theorem ev_getRb {ci : Nat} {C : String} {T : u_T} {N a j idx b : Nat} (cf : Cls ci C T N) (hj : j < N) (ht : isRf (tyF ci j) = true) (hw : Cond.fieldLink M.1 idx (T j).1 (T j).2.1 (T j).2.2.1 ∈ ALLG) (hob : ob σ a ci = true) (e : b = sR σ a j) (hnn : ¬ b = 0)
    (hd : decode M.2.2.1 pc = .ok (.getfield idx, 3)) (k : Ev d M (pc + 3) lv (.ref b :: sk) σ r τ) : Ev d M pc lv (.ref a :: sk) σ r τ := by
  subst e; exact ev_getR cf hj ht hw hob hnn hd k
theorem ev_getRNb {ci : Nat} {C : String} {T : u_T} {N a j idx b : Nat} {host : String} (cf : Cls ci C T N) (hj : j < N) (ht : isRf (tyF ci j) = true) (hw : Cond.fieldLinkNest M.1 idx (T j).1 (T j).2.1 (T j).2.2.1 host ∈ NESTL) (hob : ob σ a ci = true) (e : b = sR σ a j) (hnn : ¬ b = 0)
    (hd : decode M.2.2.1 pc = .ok (.getfield idx, 3)) (k : Ev d M (pc + 3) lv (.ref b :: sk) σ r τ) : Ev d M pc lv (.ref a :: sk) σ r τ := by
  subst e; exact ev_getRN cf hj ht hw hob hnn hd k
theorem ev_qaldb {a kd b : Nat} {i : Int32} (h17 : 17 ≤ kd) (h21 : kd ≤ 21) (hr : (kTy kd).isReference = true) (hob : ob σ a kd = true) (hi : inb σ a i = true) (e : b = sR σ a (ix i)) (hn : ¬ b = 0) (hd : decode M.2.2.1 pc = .ok (.aaload, 1)) (k : Ev d M (pc + 1) lv (.ref b :: sk) σ r τ) : Ev d M pc lv (.int i :: .ref a :: sk) σ r τ := by
  subst e; exact ev_qald h17 h21 hr hob hi hn hd k
theorem ev_qaldbN {a kd b : Nat} {i : Int32} (h17 : 17 ≤ kd) (h21 : kd ≤ 21) (hr : (kTy kd).isReference = true) (hob : ob σ a kd = true) (hi : inb σ a i = true) (e : b = sR σ a (ix i)) (hn : b = 0) (hd : decode M.2.2.1 pc = .ok (.aaload, 1)) (k : Ev d M (pc + 1) lv (.null :: sk) σ r τ) : Ev d M pc lv (.int i :: .ref a :: sk) σ r τ := by
  subst e; exact ev_qaldN h17 h21 hr hob hi hn hd k
theorem ev_if_eq_P {x : Int32} {off : Int} {tgt : Nat} (hc : x = 0) (ht : (pc : Int) + off = (tgt : Int)) (hd : decode M.2.2.1 pc = .ok (.ifCond .eq off, 3)) (k : Ev d M tgt lv sk σ r τ) : Ev d M pc lv (.int x :: sk) σ r τ := ev_if_eq_t hc ht hd k
theorem ev_if_eq_Q {x : Int32} {off : Int} {tgt : Nat} (hc : ¬ x = 0) (ht : (pc : Int) + off = (tgt : Int)) (hd : decode M.2.2.1 pc = .ok (.ifCond .eq off, 3)) (k : Ev d M (pc + 3) lv sk σ r τ) : Ev d M pc lv (.int x :: sk) σ r τ := ev_if_eq_f hc ht hd k
theorem ev_if_ne_P {x : Int32} {off : Int} {tgt : Nat} (hc : x = 0) (ht : (pc : Int) + off = (tgt : Int)) (hd : decode M.2.2.1 pc = .ok (.ifCond .ne off, 3)) (k : Ev d M (pc + 3) lv sk σ r τ) : Ev d M pc lv (.int x :: sk) σ r τ := ev_if_ne_f (fun h => h hc) ht hd k
theorem ev_if_ne_Q {x : Int32} {off : Int} {tgt : Nat} (hc : ¬ x = 0) (ht : (pc : Int) + off = (tgt : Int)) (hd : decode M.2.2.1 pc = .ok (.ifCond .ne off, 3)) (k : Ev d M tgt lv sk σ r τ) : Ev d M pc lv (.int x :: sk) σ r τ := ev_if_ne_t hc ht hd k
theorem ev_if_lt_P {x : Int32} {off : Int} {tgt : Nat} (hc : x < 0) (ht : (pc : Int) + off = (tgt : Int)) (hd : decode M.2.2.1 pc = .ok (.ifCond .lt off, 3)) (k : Ev d M tgt lv sk σ r τ) : Ev d M pc lv (.int x :: sk) σ r τ := ev_if_lt_t hc ht hd k
theorem ev_if_lt_Q {x : Int32} {off : Int} {tgt : Nat} (hc : ¬ x < 0) (ht : (pc : Int) + off = (tgt : Int)) (hd : decode M.2.2.1 pc = .ok (.ifCond .lt off, 3)) (k : Ev d M (pc + 3) lv sk σ r τ) : Ev d M pc lv (.int x :: sk) σ r τ := ev_if_lt_f hc ht hd k
theorem ev_if_ge_P {x : Int32} {off : Int} {tgt : Nat} (hc : x < 0) (ht : (pc : Int) + off = (tgt : Int)) (hd : decode M.2.2.1 pc = .ok (.ifCond .ge off, 3)) (k : Ev d M (pc + 3) lv sk σ r τ) : Ev d M pc lv (.int x :: sk) σ r τ := ev_if_ge_f (fun h => absurd hc (Int32.not_lt.mpr h)) ht hd k
theorem ev_if_ge_Q {x : Int32} {off : Int} {tgt : Nat} (hc : ¬ x < 0) (ht : (pc : Int) + off = (tgt : Int)) (hd : decode M.2.2.1 pc = .ok (.ifCond .ge off, 3)) (k : Ev d M tgt lv sk σ r τ) : Ev d M pc lv (.int x :: sk) σ r τ := ev_if_ge_t (Int32.not_lt.mp hc) ht hd k
theorem ev_if_gt_P {x : Int32} {off : Int} {tgt : Nat} (hc : x ≤ 0) (ht : (pc : Int) + off = (tgt : Int)) (hd : decode M.2.2.1 pc = .ok (.ifCond .gt off, 3)) (k : Ev d M (pc + 3) lv sk σ r τ) : Ev d M pc lv (.int x :: sk) σ r τ := ev_if_gt_f (fun h => absurd hc (Int32.not_le.mpr h)) ht hd k
theorem ev_if_gt_Q {x : Int32} {off : Int} {tgt : Nat} (hc : ¬ x ≤ 0) (ht : (pc : Int) + off = (tgt : Int)) (hd : decode M.2.2.1 pc = .ok (.ifCond .gt off, 3)) (k : Ev d M tgt lv sk σ r τ) : Ev d M pc lv (.int x :: sk) σ r τ := ev_if_gt_t (Int32.not_le.mp hc) ht hd k
theorem ev_if_le_P {x : Int32} {off : Int} {tgt : Nat} (hc : x ≤ 0) (ht : (pc : Int) + off = (tgt : Int)) (hd : decode M.2.2.1 pc = .ok (.ifCond .le off, 3)) (k : Ev d M tgt lv sk σ r τ) : Ev d M pc lv (.int x :: sk) σ r τ := ev_if_le_t hc ht hd k
theorem ev_if_le_Q {x : Int32} {off : Int} {tgt : Nat} (hc : ¬ x ≤ 0) (ht : (pc : Int) + off = (tgt : Int)) (hd : decode M.2.2.1 pc = .ok (.ifCond .le off, 3)) (k : Ev d M (pc + 3) lv sk σ r τ) : Ev d M pc lv (.int x :: sk) σ r τ := ev_if_le_f hc ht hd k
theorem ev_icmp_eq_P {x y : Int32} {off : Int} {tgt : Nat} (hc : x = y) (ht : (pc : Int) + off = (tgt : Int)) (hd : decode M.2.2.1 pc = .ok (.if_icmp .eq off, 3)) (k : Ev d M tgt lv sk σ r τ) : Ev d M pc lv (.int y :: .int x :: sk) σ r τ := ev_icmp_eq_t hc ht hd k
theorem ev_icmp_eq_Q {x y : Int32} {off : Int} {tgt : Nat} (hc : ¬ x = y) (ht : (pc : Int) + off = (tgt : Int)) (hd : decode M.2.2.1 pc = .ok (.if_icmp .eq off, 3)) (k : Ev d M (pc + 3) lv sk σ r τ) : Ev d M pc lv (.int y :: .int x :: sk) σ r τ := ev_icmp_eq_f hc ht hd k
theorem ev_icmp_ne_P {x y : Int32} {off : Int} {tgt : Nat} (hc : x = y) (ht : (pc : Int) + off = (tgt : Int)) (hd : decode M.2.2.1 pc = .ok (.if_icmp .ne off, 3)) (k : Ev d M (pc + 3) lv sk σ r τ) : Ev d M pc lv (.int y :: .int x :: sk) σ r τ := ev_icmp_ne_f (fun h => h hc) ht hd k
theorem ev_icmp_ne_Q {x y : Int32} {off : Int} {tgt : Nat} (hc : ¬ x = y) (ht : (pc : Int) + off = (tgt : Int)) (hd : decode M.2.2.1 pc = .ok (.if_icmp .ne off, 3)) (k : Ev d M tgt lv sk σ r τ) : Ev d M pc lv (.int y :: .int x :: sk) σ r τ := ev_icmp_ne_t hc ht hd k
theorem ev_icmp_lt_P {x y : Int32} {off : Int} {tgt : Nat} (hc : x < y) (ht : (pc : Int) + off = (tgt : Int)) (hd : decode M.2.2.1 pc = .ok (.if_icmp .lt off, 3)) (k : Ev d M tgt lv sk σ r τ) : Ev d M pc lv (.int y :: .int x :: sk) σ r τ := ev_icmp_lt_t hc ht hd k
theorem ev_icmp_lt_Q {x y : Int32} {off : Int} {tgt : Nat} (hc : ¬ x < y) (ht : (pc : Int) + off = (tgt : Int)) (hd : decode M.2.2.1 pc = .ok (.if_icmp .lt off, 3)) (k : Ev d M (pc + 3) lv sk σ r τ) : Ev d M pc lv (.int y :: .int x :: sk) σ r τ := ev_icmp_lt_f hc ht hd k
theorem ev_icmp_ge_P {x y : Int32} {off : Int} {tgt : Nat} (hc : x < y) (ht : (pc : Int) + off = (tgt : Int)) (hd : decode M.2.2.1 pc = .ok (.if_icmp .ge off, 3)) (k : Ev d M (pc + 3) lv sk σ r τ) : Ev d M pc lv (.int y :: .int x :: sk) σ r τ := ev_icmp_ge_f (fun h => absurd hc (Int32.not_lt.mpr h)) ht hd k
theorem ev_icmp_ge_Q {x y : Int32} {off : Int} {tgt : Nat} (hc : ¬ x < y) (ht : (pc : Int) + off = (tgt : Int)) (hd : decode M.2.2.1 pc = .ok (.if_icmp .ge off, 3)) (k : Ev d M tgt lv sk σ r τ) : Ev d M pc lv (.int y :: .int x :: sk) σ r τ := ev_icmp_ge_t (Int32.not_lt.mp hc) ht hd k
theorem ev_icmp_gt_P {x y : Int32} {off : Int} {tgt : Nat} (hc : x ≤ y) (ht : (pc : Int) + off = (tgt : Int)) (hd : decode M.2.2.1 pc = .ok (.if_icmp .gt off, 3)) (k : Ev d M (pc + 3) lv sk σ r τ) : Ev d M pc lv (.int y :: .int x :: sk) σ r τ := ev_icmp_gt_f (fun h => absurd hc (Int32.not_le.mpr h)) ht hd k
theorem ev_icmp_gt_Q {x y : Int32} {off : Int} {tgt : Nat} (hc : ¬ x ≤ y) (ht : (pc : Int) + off = (tgt : Int)) (hd : decode M.2.2.1 pc = .ok (.if_icmp .gt off, 3)) (k : Ev d M tgt lv sk σ r τ) : Ev d M pc lv (.int y :: .int x :: sk) σ r τ := ev_icmp_gt_t (Int32.not_le.mp hc) ht hd k
theorem ev_icmp_le_P {x y : Int32} {off : Int} {tgt : Nat} (hc : x ≤ y) (ht : (pc : Int) + off = (tgt : Int)) (hd : decode M.2.2.1 pc = .ok (.if_icmp .le off, 3)) (k : Ev d M tgt lv sk σ r τ) : Ev d M pc lv (.int y :: .int x :: sk) σ r τ := ev_icmp_le_t hc ht hd k
theorem ev_icmp_le_Q {x y : Int32} {off : Int} {tgt : Nat} (hc : ¬ x ≤ y) (ht : (pc : Int) + off = (tgt : Int)) (hd : decode M.2.2.1 pc = .ok (.if_icmp .le off, 3)) (k : Ev d M (pc + 3) lv sk σ r τ) : Ev d M pc lv (.int y :: .int x :: sk) σ r τ := ev_icmp_le_f hc ht hd k
end
theorem cb_m9 : (Int8.ofInt (-9)).toInt32 = (-9 : Int32) := by decide
theorem cb_m8 : (Int8.ofInt (-8)).toInt32 = (-8 : Int32) := by decide
theorem cb_m7 : (Int8.ofInt (-7)).toInt32 = (-7 : Int32) := by decide
theorem cb_m6 : (Int8.ofInt (-6)).toInt32 = (-6 : Int32) := by decide
theorem cb_m5 : (Int8.ofInt (-5)).toInt32 = (-5 : Int32) := by decide
theorem cb_m4 : (Int8.ofInt (-4)).toInt32 = (-4 : Int32) := by decide
theorem cb_m3 : (Int8.ofInt (-3)).toInt32 = (-3 : Int32) := by decide
theorem cb_m2 : (Int8.ofInt (-2)).toInt32 = (-2 : Int32) := by decide
theorem cb_6 : (Int8.ofInt (6)).toInt32 = (6 : Int32) := by decide
theorem cb_7 : (Int8.ofInt (7)).toInt32 = (7 : Int32) := by decide
theorem cb_8 : (Int8.ofInt (8)).toInt32 = (8 : Int32) := by decide
theorem cb_9 : (Int8.ofInt (9)).toInt32 = (9 : Int32) := by decide
theorem cb_10 : (Int8.ofInt (10)).toInt32 = (10 : Int32) := by decide
theorem cb_11 : (Int8.ofInt (11)).toInt32 = (11 : Int32) := by decide
theorem cb_12 : (Int8.ofInt (12)).toInt32 = (12 : Int32) := by decide
theorem cb_15 : (Int8.ofInt (15)).toInt32 = (15 : Int32) := by decide
theorem cb_16 : (Int8.ofInt (16)).toInt32 = (16 : Int32) := by decide
theorem cb_20 : (Int8.ofInt (20)).toInt32 = (20 : Int32) := by decide
theorem cb_24 : (Int8.ofInt (24)).toInt32 = (24 : Int32) := by decide
theorem cb_25 : (Int8.ofInt (25)).toInt32 = (25 : Int32) := by decide
theorem cb_30 : (Int8.ofInt (30)).toInt32 = (30 : Int32) := by decide
theorem cb_32 : (Int8.ofInt (32)).toInt32 = (32 : Int32) := by decide
theorem cb_40 : (Int8.ofInt (40)).toInt32 = (40 : Int32) := by decide
theorem cb_41 : (Int8.ofInt (41)).toInt32 = (41 : Int32) := by decide
theorem cb_42 : (Int8.ofInt (42)).toInt32 = (42 : Int32) := by decide
theorem cb_43 : (Int8.ofInt (43)).toInt32 = (43 : Int32) := by decide
theorem cb_45 : (Int8.ofInt (45)).toInt32 = (45 : Int32) := by decide
theorem cb_48 : (Int8.ofInt (48)).toInt32 = (48 : Int32) := by decide
theorem cb_56 : (Int8.ofInt (56)).toInt32 = (56 : Int32) := by decide
theorem cb_57 : (Int8.ofInt (57)).toInt32 = (57 : Int32) := by decide
theorem cb_59 : (Int8.ofInt (59)).toInt32 = (59 : Int32) := by decide
theorem cb_60 : (Int8.ofInt (60)).toInt32 = (60 : Int32) := by decide
theorem cb_61 : (Int8.ofInt (61)).toInt32 = (61 : Int32) := by decide
theorem cb_62 : (Int8.ofInt (62)).toInt32 = (62 : Int32) := by decide
theorem cb_63 : (Int8.ofInt (63)).toInt32 = (63 : Int32) := by decide
theorem cb_64 : (Int8.ofInt (64)).toInt32 = (64 : Int32) := by decide
theorem cb_72 : (Int8.ofInt (72)).toInt32 = (72 : Int32) := by decide
theorem cb_90 : (Int8.ofInt (90)).toInt32 = (90 : Int32) := by decide
theorem cb_91 : (Int8.ofInt (91)).toInt32 = (91 : Int32) := by decide
theorem cb_93 : (Int8.ofInt (93)).toInt32 = (93 : Int32) := by decide
theorem cb_97 : (Int8.ofInt (97)).toInt32 = (97 : Int32) := by decide
theorem cb_100 : (Int8.ofInt (100)).toInt32 = (100 : Int32) := by decide
theorem cb_122 : (Int8.ofInt (122)).toInt32 = (122 : Int32) := by decide
theorem ci_m8 : Int32.ofInt (-8) = (-8 : Int32) := by decide
theorem ci_m1 : Int32.ofInt (-1) = (-1 : Int32) := by decide
theorem ci_0 : Int32.ofInt (0) = (0 : Int32) := by decide
theorem ci_1 : Int32.ofInt (1) = (1 : Int32) := by decide
theorem ci_2 : Int32.ofInt (2) = (2 : Int32) := by decide
theorem ci_3 : Int32.ofInt (3) = (3 : Int32) := by decide
theorem ci_4 : Int32.ofInt (4) = (4 : Int32) := by decide
theorem ci_5 : Int32.ofInt (5) = (5 : Int32) := by decide
theorem cs_200 : (Int16.ofInt (200)).toInt32 = (200 : Int32) := by decide
theorem cs_255 : (Int16.ofInt (255)).toInt32 = (255 : Int32) := by decide
theorem cs_256 : (Int16.ofInt (256)).toInt32 = (256 : Int32) := by decide
theorem cs_257 : (Int16.ofInt (257)).toInt32 = (257 : Int32) := by decide
theorem cs_258 : (Int16.ofInt (258)).toInt32 = (258 : Int32) := by decide
theorem cs_259 : (Int16.ofInt (259)).toInt32 = (259 : Int32) := by decide
theorem cs_260 : (Int16.ofInt (260)).toInt32 = (260 : Int32) := by decide
theorem cs_261 : (Int16.ofInt (261)).toInt32 = (261 : Int32) := by decide
theorem cs_262 : (Int16.ofInt (262)).toInt32 = (262 : Int32) := by decide
theorem cs_263 : (Int16.ofInt (263)).toInt32 = (263 : Int32) := by decide
theorem cs_264 : (Int16.ofInt (264)).toInt32 = (264 : Int32) := by decide
theorem cs_265 : (Int16.ofInt (265)).toInt32 = (265 : Int32) := by decide
theorem cs_300 : (Int16.ofInt (300)).toInt32 = (300 : Int32) := by decide
theorem cs_400 : (Int16.ofInt (400)).toInt32 = (400 : Int32) := by decide
theorem cs_401 : (Int16.ofInt (401)).toInt32 = (401 : Int32) := by decide
theorem cs_420 : (Int16.ofInt (420)).toInt32 = (420 : Int32) := by decide
theorem cs_432 : (Int16.ofInt (432)).toInt32 = (432 : Int32) := by decide
theorem cs_480 : (Int16.ofInt (480)).toInt32 = (480 : Int32) := by decide
theorem cs_500 : (Int16.ofInt (500)).toInt32 = (500 : Int32) := by decide
theorem cs_999 : (Int16.ofInt (999)).toInt32 = (999 : Int32) := by decide
theorem cs_1500 : (Int16.ofInt (1500)).toInt32 = (1500 : Int32) := by decide
theorem cs_2000 : (Int16.ofInt (2000)).toInt32 = (2000 : Int32) := by decide
theorem cs_10000 : (Int16.ofInt (10000)).toInt32 = (10000 : Int32) := by decide
theorem cs_10080 : (Int16.ofInt (10080)).toInt32 = (10080 : Int32) := by decide
theorem cs_10500 : (Int16.ofInt (10500)).toInt32 = (10500 : Int32) := by decide
theorem look_out {x : Int32} (h1 : x.toInt ≠ 256) (h2 : x.toInt ≠ 259) (h3 : x.toInt ≠ 261) {d o1 o2 o3 : Int} : Op.lookupswitch.offset (#[(256, o1), (259, o2), (261, o3)] : Array (Int × Int)).toList d x.toInt = d := by
  simp [Op.lookupswitch.offset, h1, h2, h3, Ne.symm h1, Ne.symm h2, Ne.symm h3]
theorem ao19 : ∀ (ad : Nat → Nat) (cy dC : Nat → ClassId) (dI : Nat → Nat → Nat) (B0 : Nat) (U : State), Cx ad cy dC dI B0 U → va_AO "MillBoats$Table" U := fun _ _ _ _ _ _ h => h.2.2.2.2.2.2.2.1
theorem ao17 : ∀ (ad : Nat → Nat) (cy dC : Nat → ClassId) (dI : Nat → Nat → Nat) (B0 : Nat) (U : State), Cx ad cy dC dI B0 U → va_AO "MillBoats$Boat" U := fun _ _ _ _ _ _ h => h.2.2.2.2.2.2.2.2.1
theorem ao18 : ∀ (ad : Nat → Nat) (cy dC : Nat → ClassId) (dI : Nat → Nat → Nat) (B0 : Nat) (U : State), Cx ad cy dC dI B0 U → va_AO "MillBoats$Book" U := fun _ _ _ _ _ _ h => h.2.2.2.2.2.2.2.2.2.1
theorem ao20 : ∀ (ad : Nat → Nat) (cy dC : Nat → ClassId) (dI : Nat → Nat → Nat) (B0 : Nat) (U : State), Cx ad cy dC dI B0 U → va_AO "MillBoats$Text" U := fun _ _ _ _ _ _ h => h.2.2.2.2.2.2.2.2.2.2.1
