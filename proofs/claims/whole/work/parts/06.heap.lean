/-! READS AND WRITES OF THE MEMORY, over Ev -/
theorem Wd.put {ad : Nat → Nat} {cy dC : Nat → ClassId} {dI : Nat → Nat → Nat} {B0 : Nat} {σ τ : St} {H H1 : Heap} {a : Nat} (hW : Wd ad cy dC dI B0 σ H) (h1 : 1 ≤ a) (h2 : a ≤ sN σ) (hn : sN τ = sN σ) (ho : ∀ b, b ≠ a → cel ad cy τ b = cel ad cy σ b)
    (he : va_at (dC, dI) vwCl (ad a, cel ad cy τ a) H1) (z : H1.size = H.size) (oq : ∀ q : Nat, q ≠ ad a → H1[q]? = H[q]?) : Wd ad cy dC dI B0 τ H1 := by
  have hg := wld_get (ad := ad) (cy := cy) h1 h2
  have e := wld_set (ad := ad) (cy := cy) (σ := σ) (τ := τ) (e := cel ad cy τ a) h1 hn rfl ho
  refine ⟨by rw [← e]; exact hW.1.set hW.2.1 hg he oq, by rw [← e]; exact hW.2.1.set hg, fun j hj => ?_⟩
  rw [hn] at hj ⊢
  rw [z]
  exact hW.2.2 j hj
theorem Wd.in {ad : Nat → Nat} {cy dC : Nat → ClassId} {dI : Nat → Nat → Nat} {B0 : Nat} {σ : St} {H : Heap} {a : Nat} (hW : Wd ad cy dC dI B0 σ H) (h1 : 1 ≤ a) (h2 : a ≤ sN σ) : Aof B0 (ad a) := hW.2.1.2 _ _ (wld_get h1 h2)
theorem Wd.push {ad : Nat → Nat} {cy dC : Nat → ClassId} {dI : Nat → Nat → Nat} {B0 : Nat} {σ τ : St} {H H1 : Heap} (hW : Wd ad cy dC dI B0 σ H) (hB : B0 ≤ H.size) (hn : sN τ = sN σ + 1) (hz : sN σ + 1 < STR) (ho : ∀ b, b ≤ sN σ → cel ad cy τ b = cel ad cy σ b)
    (he : va_at (dC, dI) vwCl (H.size, cel ad cy τ (sN σ + 1)) H1) (z : H1.size = H.size + 1) (oq : ∀ q : Nat, q < H.size → H1[q]? = H[q]?) : Wd ad cy dC dI B0 τ H1 := by
  have ea : ad (sN σ + 1) = H.size := by have := hW.2.2 0 hz; simpa using this
  have e := wld_push (ad := ad) (cy := cy) (σ := σ) (τ := τ) (e := cel ad cy τ (sN σ + 1)) hn rfl ho
  have hk : ∀ (k : Nat) (x : Nat × va_E), (wld ad cy σ)[k]? = some x → H1[x.1]? = H[x.1]? := fun k x hx => oq x.1 ((hW.1 k x hx).lt)
  refine ⟨?_, ?_, fun j hj => ?_⟩
  · rw [← e]
    refine (hW.1.kept hk).app (fun k x hx => ?_)
    have hk0 : k < 1 := (List.getElem?_eq_some_iff.mp hx).1
    rw [show k = 0 by omega] at hx
    cases hx
    rw [ea]
    exact he
  · rw [← e]
    exact hW.2.1.push hW.1 ea (by rw [ea]; exact hB)
  · rw [hn] at hj ⊢
    have := hW.2.2 (j + 1) (by omega)
    rw [show sN σ + 1 + 1 + j = sN σ + 1 + (j + 1) by omega, this, z]
    omega
section
variable {d : Nat} {M : MD} {pc : Nat} {lv : List (Nat × Value)} {sk : List Value} {σ τ : St} {r : Option Value}
theorem fin_word {M : MD} {args : Array Value} {s : State} {w : Cond} (h : ∀ w ∈ WS M, w.before args s = true) (hw : w ∈ ALLG) : w.before args s = true := h w (List.mem_cons_of_mem _ hw)
theorem ev_getI {ci : Nat} {C : String} {T : u_T} {N a j idx : Nat} (cf : Cls ci C T N) (hj : j < N) (ht : isRf (tyF ci j) = false) (hw : Cond.fieldLink M.1 idx (T j).1 (T j).2.1 (T j).2.2.1 ∈ ALLG) (hob : ob σ a ci = true)
    (hd : decode M.2.2.1 pc = .ok (.getfield idx, 3)) (k : Ev d M (pc + 3) lv (.int (sI σ a j) :: sk) σ r τ) : Ev d M pc lv (.ref a :: sk) σ r τ := by
  refine ⟨k.1, ?_⟩
  intro p l e s m args below meth c H locs ls ad cy dC dI B0 n0 u0 K hz h1 h2 hS hW hl
  obtain ⟨hx, hb, -, -, hown, -, -, hts, hC⟩ := id K
  obtain ⟨hk, ha1, ha2⟩ := ob_spec hob
  have hg := wld_get (ad := ad) (cy := cy) ha1 ha2
  rw [cel_ob hk cf.2.1] at hg
  refine va_get (D := (dC, dI)) (v := .int (sI σ a j)) hx hb hts (fun w h => List.mem_cons_of_mem _ (cf.2.2.2.1 w h)) hown hC.1 hW.1 (a - 1) hg cf.1 j hj (fin_word hts hw) (fun _ h => h) ?_ hd (k.2 p l e s m args below meth c H locs ls ad cy dC dI B0 n0 u0 K hz h1 h2 hS hW hl)
  rw [flds_at (by rw [cf.2.2.1]; exact hj)]
  unfold fV
  rw [ht]
  rfl
theorem ev_getIN {ci : Nat} {C : String} {T : u_T} {N a j idx : Nat} {host : String} (cf : Cls ci C T N) (hj : j < N) (ht : isRf (tyF ci j) = false) (hw : Cond.fieldLinkNest M.1 idx (T j).1 (T j).2.1 (T j).2.2.1 host ∈ NESTL) (hob : ob σ a ci = true)
    (hd : decode M.2.2.1 pc = .ok (.getfield idx, 3)) (k : Ev d M (pc + 3) lv (.int (sI σ a j) :: sk) σ r τ) : Ev d M pc lv (.ref a :: sk) σ r τ := by
  refine ⟨k.1, ?_⟩
  intro p l e s m args below meth c H locs ls ad cy dC dI B0 n0 u0 K hz h1 h2 hS hW hl
  obtain ⟨hx, hb, -, -, hown, -, -, hts, hC⟩ := id K
  obtain ⟨hk, ha1, ha2⟩ := ob_spec hob
  have hg := wld_get (ad := ad) (cy := cy) ha1 ha2
  rw [cel_ob hk cf.2.1] at hg
  refine va_getN (D := (dC, dI)) (v := .int (sI σ a j)) hx hb hts (fun w h => List.mem_cons_of_mem _ (cf.2.2.2.1 w h)) hown hC.1 hW.1 (a - 1) hg cf.1 j hj (nest_use rfl (hC.2.1 _ hw)) (fun _ h => h) ?_ hd (k.2 p l e s m args below meth c H locs ls ad cy dC dI B0 n0 u0 K hz h1 h2 hS hW hl)
  rw [flds_at (by rw [cf.2.2.1]; exact hj)]
  unfold fV
  rw [ht]
  rfl
theorem fV_ref {ad : Nat → Nat} {t : FieldType} {i : Int32} {b : Nat} (ht : isRf t = true) (hb : ¬ b = 0) : fV ad t i b = .ref (ad b) := by
  unfold fV
  rw [if_pos ht]
  unfold rO
  rw [if_neg hb]
  rfl
theorem ev_getR {ci : Nat} {C : String} {T : u_T} {N a j idx : Nat} (cf : Cls ci C T N) (hj : j < N) (ht : isRf (tyF ci j) = true) (hw : Cond.fieldLink M.1 idx (T j).1 (T j).2.1 (T j).2.2.1 ∈ ALLG) (hob : ob σ a ci = true) (hnn : ¬ sR σ a j = 0)
    (hd : decode M.2.2.1 pc = .ok (.getfield idx, 3)) (k : Ev d M (pc + 3) lv (.ref (sR σ a j) :: sk) σ r τ) : Ev d M pc lv (.ref a :: sk) σ r τ := by
  refine ⟨k.1, ?_⟩
  intro p l e s m args below meth c H locs ls ad cy dC dI B0 n0 u0 K hz h1 h2 hS hW hl
  obtain ⟨hx, hb, -, -, hown, -, -, hts, hC⟩ := id K
  obtain ⟨hk, ha1, ha2⟩ := ob_spec hob
  have hg := wld_get (ad := ad) (cy := cy) ha1 ha2
  rw [cel_ob hk cf.2.1] at hg
  refine va_get (D := (dC, dI)) (v := .ref (ad (sR σ a j))) hx hb hts (fun w h => List.mem_cons_of_mem _ (cf.2.2.2.1 w h)) hown hC.1 hW.1 (a - 1) hg cf.1 j hj (fin_word hts hw) (fun _ h => h) ?_ hd (k.2 p l e s m args below meth c H locs ls ad cy dC dI B0 n0 u0 K hz h1 h2 hS hW hl)
  rw [flds_at (by rw [cf.2.2.1]; exact hj), fV_ref ht hnn]
theorem ev_getRN {ci : Nat} {C : String} {T : u_T} {N a j idx : Nat} {host : String} (cf : Cls ci C T N) (hj : j < N) (ht : isRf (tyF ci j) = true) (hw : Cond.fieldLinkNest M.1 idx (T j).1 (T j).2.1 (T j).2.2.1 host ∈ NESTL) (hob : ob σ a ci = true) (hnn : ¬ sR σ a j = 0)
    (hd : decode M.2.2.1 pc = .ok (.getfield idx, 3)) (k : Ev d M (pc + 3) lv (.ref (sR σ a j) :: sk) σ r τ) : Ev d M pc lv (.ref a :: sk) σ r τ := by
  refine ⟨k.1, ?_⟩
  intro p l e s m args below meth c H locs ls ad cy dC dI B0 n0 u0 K hz h1 h2 hS hW hl
  obtain ⟨hx, hb, -, -, hown, -, -, hts, hC⟩ := id K
  obtain ⟨hk, ha1, ha2⟩ := ob_spec hob
  have hg := wld_get (ad := ad) (cy := cy) ha1 ha2
  rw [cel_ob hk cf.2.1] at hg
  refine va_getN (D := (dC, dI)) (v := .ref (ad (sR σ a j))) hx hb hts (fun w h => List.mem_cons_of_mem _ (cf.2.2.2.1 w h)) hown hC.1 hW.1 (a - 1) hg cf.1 j hj (nest_use rfl (hC.2.1 _ hw)) (fun _ h => h) ?_ hd (k.2 p l e s m args below meth c H locs ls ad cy dC dI B0 n0 u0 K hz h1 h2 hS hW hl)
  rw [flds_at (by rw [cf.2.2.1]; exact hj), fV_ref ht hnn]
/-- the machine's side of a write to a field -/
theorem ob_put {ad : Nat → Nat} {cy dC : Nat → ClassId} {dI : Nat → Nat → Nat} {B0 : Nat} {ρ : St} {H H1 : Heap} {ci : Nat} {C : String} {T : u_T} {N a j : Nat} {v : Value} {cell : Cell} {Ts : List Cond} {args : Array Value} {s : State}
    (hts : ∀ w ∈ Ts, w.before args s = true) (hin : ∀ w ∈ u_ws C T N, w ∈ Ts) (cf : Cls ci C T N) (hj : j < N) (hk : (sK σ a).1 = ci) (h1 : 1 ≤ a) (h2 : a ≤ sN σ) (hW : Wd ad cy dC dI B0 σ H) (hK : va_K (dC, dI) vwCl (tysOf cy) s)
    (q2 : cell.cls = dC ci) (q3 : cell.vm = .none) (q4 : ∀ i, i < N → cell.slots[dI ci i]? = some (vp_V (flds ad ci σ a) i))
    (e1 : H1[ad a]? = some (cell.setSlot (dI ci j) v)) (z : H1.size = H.size) (oq : ∀ q : Nat, q ≠ ad a → H1[q]? = H[q]?)
    (hn : sN ρ = sN σ) (hkk : (sK ρ a).1 = ci) (ho : ∀ b, b ≠ a → cel ad cy ρ b = cel ad cy σ b) (hv : ∀ i, i < N → vp_V (flds ad ci ρ a) i = if i = j then v else vp_V (flds ad ci σ a) i) : Wd ad cy dC dI B0 ρ H1 := by
  have hap := va_apart (own := C) (D := (dC, dI)) hts hin (tyF ci) cf.2.2.2.2.1 cf.2.2.2.2.2 hK cf.1
  refine hW.put h1 h2 hn ho ?_ z oq
  rw [cel_ob hkk cf.2.1]
  refine ⟨_, cf.1, ?_⟩
  exact t_OB.to (V := updV (vp_V (flds ad ci σ a)) j v) ⟨_, e1, q2, q3, t_set q4 hap hj v⟩ (fun i hi => by rw [hv i hi]; rfl)
theorem flds_wI {ad : Nat → Nat} {ci a j : Nat} {v : Int32} (ht : isRf (tyF ci j) = false) {i : Nat} (hi : i < nF ci) : vp_V (flds ad ci (wI σ a j v) a) i = if i = j then .int v else vp_V (flds ad ci σ a) i := by
  have e : ∀ ρ : St, vp_V (flds ad ci ρ a) i = fV ad (tyF ci i) (sI ρ a i) (sR ρ a i) := fun ρ => by
    unfold vp_V
    rw [List.getD_eq_getElem?_getD, flds_at hi]
    rfl
  rw [e, e]
  by_cases h : i = j
  · subst h
    rw [if_pos rfl]
    unfold fV
    rw [ht]
    show Value.int (if a = a ∧ i = i then v else _) = _
    rw [if_pos ⟨rfl, rfl⟩]
  · rw [if_neg h]
    have : sI (wI σ a j v) a i = sI σ a i := if_neg (fun q => h q.2)
    rw [this]
    rfl
theorem flds_wR {ad : Nat → Nat} {ci a j : Nat} {v : Nat} (ht : isRf (tyF ci j) = true) (hv : ¬ v = 0) {i : Nat} (hi : i < nF ci) : vp_V (flds ad ci (wR σ a j v) a) i = if i = j then .ref (ad v) else vp_V (flds ad ci σ a) i := by
  have e : ∀ ρ : St, vp_V (flds ad ci ρ a) i = fV ad (tyF ci i) (sI ρ a i) (sR ρ a i) := fun ρ => by
    unfold vp_V
    rw [List.getD_eq_getElem?_getD, flds_at hi]
    rfl
  rw [e, e]
  by_cases h : i = j
  · subst h
    rw [if_pos rfl]
    have : sR (wR σ a i v) a i = v := if_pos ⟨rfl, rfl⟩
    rw [this, fV_ref ht hv]
  · rw [if_neg h]
    have : sR (wR σ a j v) a i = sR σ a i := if_neg (fun q => h q.2)
    rw [this]
    rfl
end
