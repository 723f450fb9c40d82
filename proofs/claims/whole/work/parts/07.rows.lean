/-! WRITES TO FIELDS; ARRAYS, over Ev -/
section
variable {d : Nat} {M : MD} {pc : Nat} {lv : List (Nat × Value)} {sk : List Value} {σ τ : St} {r : Option Value}
theorem ev_putI {ci : Nat} {C : String} {T : u_T} {N a j idx : Nat} {v : Int32} (cf : Cls ci C T N) (hj : j < N) (ht : isRf (tyF ci j) = false) (hfin : (T j).2.2.2 = false) (hw : Cond.fieldLink M.1 idx (T j).1 (T j).2.1 (T j).2.2.1 ∈ ALLG) (hob : ob σ a ci = true) (hnar : ∀ ad : Nat → Nat, narrow (tyF ci j) (sh ad (.int v)) = sh ad (.int v) ∧ fits (tyF ci j) (sh ad (.int v)) = true)
    (hd : decode M.2.2.1 pc = .ok (.putfield idx, 3)) (k : Ev d M (pc + 3) lv sk (wI σ a j v) r τ) : Ev d M pc lv (.int v :: .ref a :: sk) σ r τ := by
  refine ⟨k.1, ?_⟩
  intro p l e s m args below meth c H locs ls ad cy dC dI B0 n0 u0 K hz h1 h2 hS hW hl
  obtain ⟨hx, hb, -, -, hown, -, hmn, hts, hC⟩ := id K
  obtain ⟨hk, ha1, ha2⟩ := ob_spec hob
  have hg := wld_get (ad := ad) (cy := cy) ha1 ha2
  rw [cel_ob hk cf.2.1] at hg
  have hin : ∀ w ∈ u_ws C T N, w ∈ WS M := fun w h => List.mem_cons_of_mem _ (cf.2.2.2.1 w h)
  obtain ⟨r9, h19, cell, q1, q2, q3, q4⟩ := hW.1 _ _ hg
  have hr : r9 = (C, T, N) := Option.some.inj (h19.symm.trans cf.1)
  subst hr
  obtain ⟨hSl, hfc, kC, hkC, hkind⟩ := hC.1.1 ci _ cf.1
  obtain ⟨cf9, kf, fi, f, hi, hsl⟩ := hSl j hj
  have hlay := hts _ (hin _ (u_in_lay hj))
  unfold u_lay at hlay
  rw [if_neg (by rw [hfin]; decide)] at hlay
  have hst := (u_facts hfc hkC (u_lays hts hin hj) hi).1
  have h6 := u_store hfc hkC hkind hlay hi (cf.2.2.2.2.1 j hj) (hnar ad).1 (hnar ad).2
  refine W.putK hx hb (f := f) ⟨hown, fin_word hts hw, ⟨_, _, _, hi⟩, hst⟩ (by rw [q2]; exact h6) q1 q3 (by rw [hsl]; exact k2_hasslot (q4 j hj)) rfl rfl hd fun H1 e1 e2 e3 => ?_
  rw [hsl] at e1
  exact k.2 p l e s m args below meth c H1 _ ls ad cy dC dI B0 n0 u0 K hz h1 h2 (hS.put e2 e3 (hW.in ha1 ha2)) (ob_put hts hin cf hj hk ha1 ha2 hW hC.1 q2 q3 q4 e1 e2 e3 rfl hk (fun b hb => cel_wI hb) (fun i hi => flds_wI ht (by rw [cf.2.2.1]; exact hi))) hl
theorem ev_putIN {ci : Nat} {C : String} {T : u_T} {N a j idx : Nat} {v : Int32} (cf : Cls ci C T N) (hj : j < N) (ht : isRf (tyF ci j) = false) (hfin : (T j).2.2.2 = false) {host : String} (hw : Cond.fieldLinkNest M.1 idx (T j).1 (T j).2.1 (T j).2.2.1 host ∈ NESTL) (hob : ob σ a ci = true) (hnar : ∀ ad : Nat → Nat, narrow (tyF ci j) (sh ad (.int v)) = sh ad (.int v) ∧ fits (tyF ci j) (sh ad (.int v)) = true)
    (hd : decode M.2.2.1 pc = .ok (.putfield idx, 3)) (k : Ev d M (pc + 3) lv sk (wI σ a j v) r τ) : Ev d M pc lv (.int v :: .ref a :: sk) σ r τ := by
  refine ⟨k.1, ?_⟩
  intro p l e s m args below meth c H locs ls ad cy dC dI B0 n0 u0 K hz h1 h2 hS hW hl
  obtain ⟨hx, hb, -, -, hown, -, hmn, hts, hC⟩ := id K
  obtain ⟨hk, ha1, ha2⟩ := ob_spec hob
  have hg := wld_get (ad := ad) (cy := cy) ha1 ha2
  rw [cel_ob hk cf.2.1] at hg
  have hin : ∀ w ∈ u_ws C T N, w ∈ WS M := fun w h => List.mem_cons_of_mem _ (cf.2.2.2.1 w h)
  obtain ⟨r9, h19, cell, q1, q2, q3, q4⟩ := hW.1 _ _ hg
  have hr : r9 = (C, T, N) := Option.some.inj (h19.symm.trans cf.1)
  subst hr
  obtain ⟨hSl, hfc, kC, hkC, hkind⟩ := hC.1.1 ci _ cf.1
  obtain ⟨cf9, kf, fi, f, hi, hsl⟩ := hSl j hj
  have hlay := hts _ (hin _ (u_in_lay hj))
  unfold u_lay at hlay
  rw [if_neg (by rw [hfin]; decide)] at hlay
  have hst := (u_facts hfc hkC (u_lays hts hin hj) hi).1
  have h6 := u_store hfc hkC hkind hlay hi (cf.2.2.2.2.1 j hj) (hnar ad).1 (hnar ad).2
  refine va_WputK hx hb (f := f) hown (nest_use rfl (hC.2.1 _ hw)) hi hst (by rw [q2]; exact h6) q1 q3 (by rw [hsl]; exact k2_hasslot (q4 j hj)) rfl rfl hd fun H1 e1 e2 e3 => ?_
  rw [hsl] at e1
  exact k.2 p l e s m args below meth c H1 _ ls ad cy dC dI B0 n0 u0 K hz h1 h2 (hS.put e2 e3 (hW.in ha1 ha2)) (ob_put hts hin cf hj hk ha1 ha2 hW hC.1 q2 q3 q4 e1 e2 e3 rfl hk (fun b hb => cel_wI hb) (fun i hi => flds_wI ht (by rw [cf.2.2.1]; exact hi))) hl
theorem ev_putIF {ci : Nat} {C : String} {T : u_T} {N a j idx : Nat} {v : Int32} (cf : Cls ci C T N) (hj : j < N) (ht : isRf (tyF ci j) = false) (hfin : (T j).2.2.2 = true) (hw : Cond.fieldLink M.1 idx (T j).1 (T j).2.1 (T j).2.2.1 ∈ ALLG) (hi2 : M.2.1.name = "<init>") (hdecl : (T j).1 = M.1) (hob : ob σ a ci = true) (hnar : ∀ ad : Nat → Nat, narrow (tyF ci j) (sh ad (.int v)) = sh ad (.int v) ∧ fits (tyF ci j) (sh ad (.int v)) = true)
    (hd : decode M.2.2.1 pc = .ok (.putfield idx, 3)) (k : Ev d M (pc + 3) lv sk (wI σ a j v) r τ) : Ev d M pc lv (.int v :: .ref a :: sk) σ r τ := by
  refine ⟨k.1, ?_⟩
  intro p l e s m args below meth c H locs ls ad cy dC dI B0 n0 u0 K hz h1 h2 hS hW hl
  obtain ⟨hx, hb, -, -, hown, -, hmn, hts, hC⟩ := id K
  obtain ⟨hk, ha1, ha2⟩ := ob_spec hob
  have hg := wld_get (ad := ad) (cy := cy) ha1 ha2
  rw [cel_ob hk cf.2.1] at hg
  have hin : ∀ w ∈ u_ws C T N, w ∈ WS M := fun w h => List.mem_cons_of_mem _ (cf.2.2.2.1 w h)
  obtain ⟨r9, h19, cell, q1, q2, q3, q4⟩ := hW.1 _ _ hg
  have hr : r9 = (C, T, N) := Option.some.inj (h19.symm.trans cf.1)
  subst hr
  obtain ⟨hSl, hfc, kC, hkC, hkind⟩ := hC.1.1 ci _ cf.1
  obtain ⟨cf9, kf, fi, f, hi, hsl⟩ := hSl j hj
  have hlay := hts _ (hin _ (u_in_lay hj))
  unfold u_lay at hlay
  rw [if_pos hfin] at hlay
  have hst := (u_facts hfc hkC (u_lays hts hin hj) hi).1
  have hcf : m.cls = cf9 := by
    obtain ⟨_, _, c', _, _, _, -, -, hf', -, -, -, hown2, -⟩ := Cond.laysFinal_spec hlay
    have e1 : c' = cf9 := by have := hi.symm.trans hf'; simp at this; exact this.1.symm
    rw [hdecl] at hown2
    rw [← e1]; exact Option.some.inj (hown.symm.trans hown2)
  have h6 := u_fits hfc hkC hkind (Or.inr hlay) hi (cf.2.2.2.2.1 j hj) (hnar ad).1 (hnar ad).2
  refine W.putFinK hx hb hown (fin_word hts hw) hi hst hcf (hmn.trans hi2) (by rw [q2]; exact h6) q1 q3 (by rw [hsl]; exact k2_hasslot (q4 j hj)) rfl rfl hd fun H1 e1 e2 e3 => ?_
  rw [hsl] at e1
  exact k.2 p l e s m args below meth c H1 _ ls ad cy dC dI B0 n0 u0 K hz h1 h2 (hS.put e2 e3 (hW.in ha1 ha2)) (ob_put hts hin cf hj hk ha1 ha2 hW hC.1 q2 q3 q4 e1 e2 e3 rfl hk (fun b hb => cel_wI hb) (fun i hi => flds_wI ht (by rw [cf.2.2.1]; exact hi))) hl
theorem ev_putR {ci : Nat} {C : String} {T : u_T} {N a j idx : Nat} {v : Nat} (cf : Cls ci C T N) (hj : j < N) (ht : isRf (tyF ci j) = true) (hnn : ¬ v = 0) (hfin : (T j).2.2.2 = false) (hw : Cond.fieldLink M.1 idx (T j).1 (T j).2.1 (T j).2.2.1 ∈ ALLG) (hob : ob σ a ci = true) (hnar : ∀ ad : Nat → Nat, narrow (tyF ci j) (sh ad (.ref v)) = sh ad (.ref v) ∧ fits (tyF ci j) (sh ad (.ref v)) = true)
    (hd : decode M.2.2.1 pc = .ok (.putfield idx, 3)) (k : Ev d M (pc + 3) lv sk (wR σ a j v) r τ) : Ev d M pc lv (.ref v :: .ref a :: sk) σ r τ := by
  refine ⟨k.1, ?_⟩
  intro p l e s m args below meth c H locs ls ad cy dC dI B0 n0 u0 K hz h1 h2 hS hW hl
  obtain ⟨hx, hb, -, -, hown, -, hmn, hts, hC⟩ := id K
  obtain ⟨hk, ha1, ha2⟩ := ob_spec hob
  have hg := wld_get (ad := ad) (cy := cy) ha1 ha2
  rw [cel_ob hk cf.2.1] at hg
  have hin : ∀ w ∈ u_ws C T N, w ∈ WS M := fun w h => List.mem_cons_of_mem _ (cf.2.2.2.1 w h)
  obtain ⟨r9, h19, cell, q1, q2, q3, q4⟩ := hW.1 _ _ hg
  have hr : r9 = (C, T, N) := Option.some.inj (h19.symm.trans cf.1)
  subst hr
  obtain ⟨hSl, hfc, kC, hkC, hkind⟩ := hC.1.1 ci _ cf.1
  obtain ⟨cf9, kf, fi, f, hi, hsl⟩ := hSl j hj
  have hlay := hts _ (hin _ (u_in_lay hj))
  unfold u_lay at hlay
  rw [if_neg (by rw [hfin]; decide)] at hlay
  have hst := (u_facts hfc hkC (u_lays hts hin hj) hi).1
  have h6 := u_store hfc hkC hkind hlay hi (cf.2.2.2.2.1 j hj) (hnar ad).1 (hnar ad).2
  refine W.putK hx hb (f := f) ⟨hown, fin_word hts hw, ⟨_, _, _, hi⟩, hst⟩ (by rw [q2]; exact h6) q1 q3 (by rw [hsl]; exact k2_hasslot (q4 j hj)) rfl rfl hd fun H1 e1 e2 e3 => ?_
  rw [hsl] at e1
  exact k.2 p l e s m args below meth c H1 _ ls ad cy dC dI B0 n0 u0 K hz h1 h2 (hS.put e2 e3 (hW.in ha1 ha2)) (ob_put hts hin cf hj hk ha1 ha2 hW hC.1 q2 q3 q4 e1 e2 e3 rfl hk (fun b hb => cel_wR hb) (fun i hi => flds_wR ht hnn (by rw [cf.2.2.1]; exact hi))) hl
theorem ev_putRN {ci : Nat} {C : String} {T : u_T} {N a j idx : Nat} {v : Nat} (cf : Cls ci C T N) (hj : j < N) (ht : isRf (tyF ci j) = true) (hnn : ¬ v = 0) (hfin : (T j).2.2.2 = false) {host : String} (hw : Cond.fieldLinkNest M.1 idx (T j).1 (T j).2.1 (T j).2.2.1 host ∈ NESTL) (hob : ob σ a ci = true) (hnar : ∀ ad : Nat → Nat, narrow (tyF ci j) (sh ad (.ref v)) = sh ad (.ref v) ∧ fits (tyF ci j) (sh ad (.ref v)) = true)
    (hd : decode M.2.2.1 pc = .ok (.putfield idx, 3)) (k : Ev d M (pc + 3) lv sk (wR σ a j v) r τ) : Ev d M pc lv (.ref v :: .ref a :: sk) σ r τ := by
  refine ⟨k.1, ?_⟩
  intro p l e s m args below meth c H locs ls ad cy dC dI B0 n0 u0 K hz h1 h2 hS hW hl
  obtain ⟨hx, hb, -, -, hown, -, hmn, hts, hC⟩ := id K
  obtain ⟨hk, ha1, ha2⟩ := ob_spec hob
  have hg := wld_get (ad := ad) (cy := cy) ha1 ha2
  rw [cel_ob hk cf.2.1] at hg
  have hin : ∀ w ∈ u_ws C T N, w ∈ WS M := fun w h => List.mem_cons_of_mem _ (cf.2.2.2.1 w h)
  obtain ⟨r9, h19, cell, q1, q2, q3, q4⟩ := hW.1 _ _ hg
  have hr : r9 = (C, T, N) := Option.some.inj (h19.symm.trans cf.1)
  subst hr
  obtain ⟨hSl, hfc, kC, hkC, hkind⟩ := hC.1.1 ci _ cf.1
  obtain ⟨cf9, kf, fi, f, hi, hsl⟩ := hSl j hj
  have hlay := hts _ (hin _ (u_in_lay hj))
  unfold u_lay at hlay
  rw [if_neg (by rw [hfin]; decide)] at hlay
  have hst := (u_facts hfc hkC (u_lays hts hin hj) hi).1
  have h6 := u_store hfc hkC hkind hlay hi (cf.2.2.2.2.1 j hj) (hnar ad).1 (hnar ad).2
  refine va_WputK hx hb (f := f) hown (nest_use rfl (hC.2.1 _ hw)) hi hst (by rw [q2]; exact h6) q1 q3 (by rw [hsl]; exact k2_hasslot (q4 j hj)) rfl rfl hd fun H1 e1 e2 e3 => ?_
  rw [hsl] at e1
  exact k.2 p l e s m args below meth c H1 _ ls ad cy dC dI B0 n0 u0 K hz h1 h2 (hS.put e2 e3 (hW.in ha1 ha2)) (ob_put hts hin cf hj hk ha1 ha2 hW hC.1 q2 q3 q4 e1 e2 e3 rfl hk (fun b hb => cel_wR hb) (fun i hi => flds_wR ht hnn (by rw [cf.2.2.1]; exact hi))) hl
theorem ev_putRF {ci : Nat} {C : String} {T : u_T} {N a j idx : Nat} {v : Nat} (cf : Cls ci C T N) (hj : j < N) (ht : isRf (tyF ci j) = true) (hnn : ¬ v = 0) (hfin : (T j).2.2.2 = true) (hw : Cond.fieldLink M.1 idx (T j).1 (T j).2.1 (T j).2.2.1 ∈ ALLG) (hi2 : M.2.1.name = "<init>") (hdecl : (T j).1 = M.1) (hob : ob σ a ci = true) (hnar : ∀ ad : Nat → Nat, narrow (tyF ci j) (sh ad (.ref v)) = sh ad (.ref v) ∧ fits (tyF ci j) (sh ad (.ref v)) = true)
    (hd : decode M.2.2.1 pc = .ok (.putfield idx, 3)) (k : Ev d M (pc + 3) lv sk (wR σ a j v) r τ) : Ev d M pc lv (.ref v :: .ref a :: sk) σ r τ := by
  refine ⟨k.1, ?_⟩
  intro p l e s m args below meth c H locs ls ad cy dC dI B0 n0 u0 K hz h1 h2 hS hW hl
  obtain ⟨hx, hb, -, -, hown, -, hmn, hts, hC⟩ := id K
  obtain ⟨hk, ha1, ha2⟩ := ob_spec hob
  have hg := wld_get (ad := ad) (cy := cy) ha1 ha2
  rw [cel_ob hk cf.2.1] at hg
  have hin : ∀ w ∈ u_ws C T N, w ∈ WS M := fun w h => List.mem_cons_of_mem _ (cf.2.2.2.1 w h)
  obtain ⟨r9, h19, cell, q1, q2, q3, q4⟩ := hW.1 _ _ hg
  have hr : r9 = (C, T, N) := Option.some.inj (h19.symm.trans cf.1)
  subst hr
  obtain ⟨hSl, hfc, kC, hkC, hkind⟩ := hC.1.1 ci _ cf.1
  obtain ⟨cf9, kf, fi, f, hi, hsl⟩ := hSl j hj
  have hlay := hts _ (hin _ (u_in_lay hj))
  unfold u_lay at hlay
  rw [if_pos hfin] at hlay
  have hst := (u_facts hfc hkC (u_lays hts hin hj) hi).1
  have hcf : m.cls = cf9 := by
    obtain ⟨_, _, c', _, _, _, -, -, hf', -, -, -, hown2, -⟩ := Cond.laysFinal_spec hlay
    have e1 : c' = cf9 := by have := hi.symm.trans hf'; simp at this; exact this.1.symm
    rw [hdecl] at hown2
    rw [← e1]; exact Option.some.inj (hown.symm.trans hown2)
  have h6 := u_fits hfc hkC hkind (Or.inr hlay) hi (cf.2.2.2.2.1 j hj) (hnar ad).1 (hnar ad).2
  refine W.putFinK hx hb hown (fin_word hts hw) hi hst hcf (hmn.trans hi2) (by rw [q2]; exact h6) q1 q3 (by rw [hsl]; exact k2_hasslot (q4 j hj)) rfl rfl hd fun H1 e1 e2 e3 => ?_
  rw [hsl] at e1
  exact k.2 p l e s m args below meth c H1 _ ls ad cy dC dI B0 n0 u0 K hz h1 h2 (hS.put e2 e3 (hW.in ha1 ha2)) (ob_put hts hin cf hj hk ha1 ha2 hW hC.1 q2 q3 q4 e1 e2 e3 rfl hk (fun b hb => cel_wR hb) (fun i hi => flds_wR ht hnn (by rw [cf.2.2.1]; exact hi))) hl
theorem ev_iald {a : Nat} {i : Int32} (hob : ob σ a 14 = true) (hi : inb σ a i = true) (hd : decode M.2.2.1 pc = .ok (.iaload, 1)) (k : Ev d M (pc + 1) lv (.int (sI σ a (ix i)) :: sk) σ r τ) : Ev d M pc lv (.int i :: .ref a :: sk) σ r τ := by
  refine ⟨k.1, ?_⟩
  intro p l e s m args below meth c H locs ls ad cy dC dI B0 n0 u0 K hz h1 h2 hS hW hl
  obtain ⟨hx, hb, -, -, hown, -, -, hts, hC⟩ := id K
  obtain ⟨hk, ha1, ha2⟩ := ob_spec hob
  have hg := wld_get (ad := ad) (cy := cy) ha1 ha2
  rw [cel_i hk (by decide) (by decide) (by decide)] at hg
  exact va_iald hx hb hC.1 hW.1 (a - 1) 1 hg rfl (inb_spec hi) hd (k.2 p l e s m args below meth c H locs ls ad cy dC dI B0 n0 u0 K hz h1 h2 hS hW hl)
theorem ev_bald {a : Nat} {i : Int32} (hob : ob σ a 13 = true) (hi : inb σ a i = true) (hd : decode M.2.2.1 pc = .ok (.baload, 1)) (k : Ev d M (pc + 1) lv (.int (sI σ a (ix i)) :: sk) σ r τ) : Ev d M pc lv (.int i :: .ref a :: sk) σ r τ := by
  refine ⟨k.1, ?_⟩
  intro p l e s m args below meth c H locs ls ad cy dC dI B0 n0 u0 K hz h1 h2 hS hW hl
  obtain ⟨hx, hb, -, -, hown, -, -, hts, hC⟩ := id K
  obtain ⟨hk, ha1, ha2⟩ := ob_spec hob
  have hg := wld_get (ad := ad) (cy := cy) ha1 ha2
  rw [cel_i hk (by decide) (by decide) (by decide)] at hg
  exact va_bald hx hb hC.1 hW.1 (a - 1) 0 hg rfl (inb_spec hi) hd (k.2 p l e s m args below meth c H locs ls ad cy dC dI B0 n0 u0 K hz h1 h2 hS hW hl)
theorem ev_zald {a : Nat} {i : Int32} (hob : ob σ a 16 = true) (hi : inb σ a i = true) (hd : decode M.2.2.1 pc = .ok (.baload, 1)) (k : Ev d M (pc + 1) lv (.int (sI σ a (ix i)) :: sk) σ r τ) : Ev d M pc lv (.int i :: .ref a :: sk) σ r τ := by
  refine ⟨k.1, ?_⟩
  intro p l e s m args below meth c H locs ls ad cy dC dI B0 n0 u0 K hz h1 h2 hS hW hl
  obtain ⟨hx, hb, -, -, hown, -, -, hts, hC⟩ := id K
  obtain ⟨hk, ha1, ha2⟩ := ob_spec hob
  have hg := wld_get (ad := ad) (cy := cy) ha1 ha2
  rw [cel_i hk (by decide) (by decide) (by decide)] at hg
  exact va_zald hx hb hC.1 hW.1 (a - 1) 3 hg rfl (inb_spec hi) hd (k.2 p l e s m args below meth c H locs ls ad cy dC dI B0 n0 u0 K hz h1 h2 hS hW hl)
theorem ev_lald {a : Nat} {i : Int32} (hob : ob σ a 15 = true) (hi : inb σ a i = true) (hd : decode M.2.2.1 pc = .ok (.laload, 1)) (k : Ev d M (pc + 1) lv (.long (sL σ a (ix i)) :: sk) σ r τ) : Ev d M pc lv (.int i :: .ref a :: sk) σ r τ := by
  refine ⟨k.1, ?_⟩
  intro p l e s m args below meth c H locs ls ad cy dC dI B0 n0 u0 K hz h1 h2 hS hW hl
  obtain ⟨hx, hb, -, -, hown, -, -, hts, hC⟩ := id K
  obtain ⟨hk, ha1, ha2⟩ := ob_spec hob
  have hg := wld_get (ad := ad) (cy := cy) ha1 ha2
  rw [cel_l hk] at hg
  exact va_lald hx hb hC.1 hW.1 (a - 1) 2 hg rfl (inb_spec hi) hd (k.2 p l e s m args below meth c H locs ls ad cy dC dI B0 n0 u0 K hz h1 h2 hS hW hl)
theorem ev_qald {a kd : Nat} {i : Int32} (h17 : 17 ≤ kd) (h21 : kd ≤ 21) (hr : (kTy kd).isReference = true) (hob : ob σ a kd = true) (hi : inb σ a i = true) (hn : ¬ sR σ a (ix i) = 0) (hd : decode M.2.2.1 pc = .ok (.aaload, 1)) (k : Ev d M (pc + 1) lv (.ref (sR σ a (ix i)) :: sk) σ r τ) : Ev d M pc lv (.int i :: .ref a :: sk) σ r τ := by
  refine ⟨k.1, ?_⟩
  intro p l e s m args below meth c H locs ls ad cy dC dI B0 n0 u0 K hz h1 h2 hS hW hl
  obtain ⟨hx, hb, -, -, hown, -, -, hts, hC⟩ := id K
  obtain ⟨hk, ha1, ha2⟩ := ob_spec hob
  have hg := wld_get (ad := ad) (cy := cy) ha1 ha2
  rw [cel_q hk h17] at hg
  have hin := inb_spec hi
  have hlt : i.toNatClampNeg < (sK σ a).2 := Nat.not_le.mp fun q => hin (Or.inr q)
  refine W.aald (v := .ref (ad (sR σ a (ix i)))) hx hb (hW.1 _ _ hg) ((hC.1.2 _ _ (tys_at (by omega) h21)).1 (sK σ a).2 (fun j => va_rf (rO ad (sR σ a j)))) hr (fun q => by cases q) (by show ¬ (i < 0 ∨ (arrV _ _ _).slots.size ≤ _); rw [arrV_size]; exact hin) ?_ rfl rfl hd (k.2 p l e s m args below meth c H locs ls ad cy dC dI B0 n0 u0 K hz h1 h2 hS hW hl)
  show (arrV _ _ _).slots[_]? = _
  rw [arrV_read _ _ hlt]
  show some (va_rf (rO ad (sR σ a (ix i)))) = _
  unfold rO
  rw [if_neg hn]
  rfl
theorem ev_qaldN {a kd : Nat} {i : Int32} (h17 : 17 ≤ kd) (h21 : kd ≤ 21) (hr : (kTy kd).isReference = true) (hob : ob σ a kd = true) (hi : inb σ a i = true) (hn : sR σ a (ix i) = 0) (hd : decode M.2.2.1 pc = .ok (.aaload, 1)) (k : Ev d M (pc + 1) lv (.null :: sk) σ r τ) : Ev d M pc lv (.int i :: .ref a :: sk) σ r τ := by
  refine ⟨k.1, ?_⟩
  intro p l e s m args below meth c H locs ls ad cy dC dI B0 n0 u0 K hz h1 h2 hS hW hl
  obtain ⟨hx, hb, -, -, hown, -, -, hts, hC⟩ := id K
  obtain ⟨hk, ha1, ha2⟩ := ob_spec hob
  have hg := wld_get (ad := ad) (cy := cy) ha1 ha2
  rw [cel_q hk h17] at hg
  have hin := inb_spec hi
  have hlt : i.toNatClampNeg < (sK σ a).2 := Nat.not_le.mp fun q => hin (Or.inr q)
  refine W.aald (v := .null) hx hb (hW.1 _ _ hg) ((hC.1.2 _ _ (tys_at (by omega) h21)).1 (sK σ a).2 (fun j => va_rf (rO ad (sR σ a j)))) hr (fun q => by cases q) (by show ¬ (i < 0 ∨ (arrV _ _ _).slots.size ≤ _); rw [arrV_size]; exact hin) ?_ rfl rfl hd (k.2 p l e s m args below meth c H locs ls ad cy dC dI B0 n0 u0 K hz h1 h2 hS hW hl)
  show (arrV _ _ _).slots[_]? = _
  rw [arrV_read _ _ hlt]
  show some (va_rf (rO ad (sR σ a (ix i)))) = _
  unfold rO
  rw [if_pos hn]
  rfl
theorem ev_alen {a kd : Nat} (h13 : 13 ≤ kd) (h21 : kd ≤ 21) (hob : ob σ a kd = true) (hd : decode M.2.2.1 pc = .ok (.arraylength, 1)) (k : Ev d M (pc + 1) lv (.int (Int32.ofNat (sK σ a).2) :: sk) σ r τ) : Ev d M pc lv (.ref a :: sk) σ r τ := by
  refine ⟨k.1, ?_⟩
  intro p l e s m args below meth c H locs ls ad cy dC dI B0 n0 u0 K hz h1 h2 hS hW hl
  obtain ⟨hx, hb, -, -, hown, -, -, hts, hC⟩ := id K
  obtain ⟨hk, ha1, ha2⟩ := ob_spec hob
  have hg := wld_get (ad := ad) (cy := cy) ha1 ha2
  obtain ⟨y, hy⟩ : ∃ y, cel ad cy σ a = .inl (cy kd, (sK σ a).2, y) := by
    by_cases h : kd = 15
    · subst h; exact ⟨_, cel_l hk⟩
    · by_cases h2 : kd ≤ 16
      · exact ⟨_, cel_i hk h13 h2 h⟩
      · exact ⟨_, cel_q hk (by omega)⟩
  rw [hy] at hg
  exact va_alen hx hb hC.1 hW.1 (a - 1) (kd - 13) hg (tys_at h13 h21) rfl hd (k.2 p l e s m args below meth c H locs ls ad cy dC dI B0 n0 u0 K hz h1 h2 hS hW hl)
theorem ev_iast {a : Nat} {i v : Int32} (hob : ob σ a 14 = true) (hi : inb σ a i = true) (hd : decode M.2.2.1 pc = .ok (.iastore, 1)) (k : Ev d M (pc + 1) lv sk (wI σ a (ix i) v) r τ) : Ev d M pc lv (.int v :: .int i :: .ref a :: sk) σ r τ := by
  refine ⟨k.1, ?_⟩
  intro p l e s m args below meth c H locs ls ad cy dC dI B0 n0 u0 K hz h1 h2 hS hW hl
  obtain ⟨hx, hb, -, -, hown, -, -, hts, hC⟩ := id K
  obtain ⟨hk, ha1, ha2⟩ := ob_spec hob
  have hg := wld_get (ad := ad) (cy := cy) ha1 ha2
  rw [cel_i hk (by decide) (by decide) (by decide)] at hg
  have hin := inb_spec hi
  refine W.iast hx hb (hW.1 _ _ hg) ((hC.1.2 1 _ rfl).1 (sK σ a).2 (fun j => .int (sI σ a j))) (fun q => by cases q) (by show ¬ (i < 0 ∨ (arrV _ _ _).slots.size ≤ _); rw [arrV_size]; exact hin) rfl rfl hd fun H1 e1 e2 e3 => ?_
  refine k.2 p l e s m args below meth c H1 _ ls ad cy dC dI B0 n0 u0 K hz h1 h2 (hS.put e2 e3 (hW.in ha1 ha2)) (hW.put ha1 ha2 rfl (fun b hb => cel_wI hb) ?_ e2 e3) hl
  rw [cel_i (σ := wI σ a (ix i) v) hk (by decide) (by decide) (by decide)]
  show H1[ad a]? = some (vp_cell _ _)
  rw [e1]
  rw [vp_cell_i, vp_cell_i, arrV_store]
  congr 2
  funext q
  show _ = Value.int (if a = a ∧ q = ix i then _ else _)
  by_cases hq : q = ix i
  · rw [if_pos ⟨rfl, hq⟩]
    subst hq
    simp [updV, ix]
    
  · rw [if_neg (fun h => hq h.2)]
    have hq' : ¬ q = i.toNatClampNeg := hq
    simp [updV, hq']
theorem ev_bast {a : Nat} {i v : Int32} (hob : ob σ a 13 = true) (hi : inb σ a i = true) (hd : decode M.2.2.1 pc = .ok (.bastore, 1)) (k : Ev d M (pc + 1) lv sk (wI σ a (ix i) (vp_nar .byte v)) r τ) : Ev d M pc lv (.int v :: .int i :: .ref a :: sk) σ r τ := by
  refine ⟨k.1, ?_⟩
  intro p l e s m args below meth c H locs ls ad cy dC dI B0 n0 u0 K hz h1 h2 hS hW hl
  obtain ⟨hx, hb, -, -, hown, -, -, hts, hC⟩ := id K
  obtain ⟨hk, ha1, ha2⟩ := ob_spec hob
  have hg := wld_get (ad := ad) (cy := cy) ha1 ha2
  rw [cel_i hk (by decide) (by decide) (by decide)] at hg
  have hin := inb_spec hi
  refine W.bast hx hb (hW.1 _ _ hg) ((hC.1.2 0 _ rfl).1 (sK σ a).2 (fun j => .int (sI σ a j))) (fun q => by cases q) (by show ¬ (i < 0 ∨ (arrV _ _ _).slots.size ≤ _); rw [arrV_size]; exact hin) rfl rfl hd fun H1 e1 e2 e3 => ?_
  refine k.2 p l e s m args below meth c H1 _ ls ad cy dC dI B0 n0 u0 K hz h1 h2 (hS.put e2 e3 (hW.in ha1 ha2)) (hW.put ha1 ha2 rfl (fun b hb => cel_wI hb) ?_ e2 e3) hl
  rw [cel_i (σ := wI σ a (ix i) (vp_nar .byte v)) hk (by decide) (by decide) (by decide)]
  show H1[ad a]? = some (vp_cell _ _)
  rw [e1]
  rw [vp_cell_i, vp_cell_i, arrV_store]
  congr 2
  funext q
  show _ = Value.int (if a = a ∧ q = ix i then _ else _)
  by_cases hq : q = ix i
  · rw [if_pos ⟨rfl, hq⟩]
    subst hq
    simp [updV, ix]
    rfl
  · rw [if_neg (fun h => hq h.2)]
    have hq' : ¬ q = i.toNatClampNeg := hq
    simp [updV, hq']
theorem ev_zast {a : Nat} {i v : Int32} (hob : ob σ a 16 = true) (hi : inb σ a i = true) (hd : decode M.2.2.1 pc = .ok (.bastore, 1)) (k : Ev d M (pc + 1) lv sk (wI σ a (ix i) (vp_nar .boolean v)) r τ) : Ev d M pc lv (.int v :: .int i :: .ref a :: sk) σ r τ := by
  refine ⟨k.1, ?_⟩
  intro p l e s m args below meth c H locs ls ad cy dC dI B0 n0 u0 K hz h1 h2 hS hW hl
  obtain ⟨hx, hb, -, -, hown, -, -, hts, hC⟩ := id K
  obtain ⟨hk, ha1, ha2⟩ := ob_spec hob
  have hg := wld_get (ad := ad) (cy := cy) ha1 ha2
  rw [cel_i hk (by decide) (by decide) (by decide)] at hg
  have hin := inb_spec hi
  refine W.zast hx hb (hW.1 _ _ hg) ((hC.1.2 3 _ rfl).1 (sK σ a).2 (fun j => .int (sI σ a j))) (fun q => by cases q) (by show ¬ (i < 0 ∨ (arrV _ _ _).slots.size ≤ _); rw [arrV_size]; exact hin) rfl rfl hd fun H1 e1 e2 e3 => ?_
  refine k.2 p l e s m args below meth c H1 _ ls ad cy dC dI B0 n0 u0 K hz h1 h2 (hS.put e2 e3 (hW.in ha1 ha2)) (hW.put ha1 ha2 rfl (fun b hb => cel_wI hb) ?_ e2 e3) hl
  rw [cel_i (σ := wI σ a (ix i) (vp_nar .boolean v)) hk (by decide) (by decide) (by decide)]
  show H1[ad a]? = some (vp_cell _ _)
  rw [e1]
  rw [vp_cell_i, vp_cell_i, arrV_store]
  congr 2
  funext q
  show _ = Value.int (if a = a ∧ q = ix i then _ else _)
  by_cases hq : q = ix i
  · rw [if_pos ⟨rfl, hq⟩]
    subst hq
    simp [updV, ix]
    rfl
  · rw [if_neg (fun h => hq h.2)]
    have hq' : ¬ q = i.toNatClampNeg := hq
    simp [updV, hq']
theorem ev_last {a : Nat} {i : Int32} {v : Int64} (hob : ob σ a 15 = true) (hi : inb σ a i = true) (hd : decode M.2.2.1 pc = .ok (.lastore, 1)) (k : Ev d M (pc + 1) lv sk (wL σ a (ix i) v) r τ) : Ev d M pc lv (.long v :: .int i :: .ref a :: sk) σ r τ := by
  refine ⟨k.1, ?_⟩
  intro p l e s m args below meth c H locs ls ad cy dC dI B0 n0 u0 K hz h1 h2 hS hW hl
  obtain ⟨hx, hb, -, -, hown, -, -, hts, hC⟩ := id K
  obtain ⟨hk, ha1, ha2⟩ := ob_spec hob
  have hg := wld_get (ad := ad) (cy := cy) ha1 ha2
  rw [cel_l hk] at hg
  have hin := inb_spec hi
  refine W.last hx hb (hW.1 _ _ hg) ((hC.1.2 2 _ rfl).1 (sK σ a).2 (fun j => .long (sL σ a j))) (fun q => by cases q) (by show ¬ (i < 0 ∨ (arrV _ _ _).slots.size ≤ _); rw [arrV_size]; exact hin) rfl rfl hd fun H1 e1 e2 e3 => ?_
  refine k.2 p l e s m args below meth c H1 _ ls ad cy dC dI B0 n0 u0 K hz h1 h2 (hS.put e2 e3 (hW.in ha1 ha2)) (hW.put ha1 ha2 rfl (fun b hb => cel_wL hb) ?_ e2 e3) hl
  rw [cel_l (σ := wL σ a (ix i) v) hk]
  show H1[ad a]? = some (vp_cell _ _)
  rw [e1]
  rw [vp_cell_l, vp_cell_l, arrV_store]
  congr 2
  funext q
  show _ = Value.long (if a = a ∧ q = ix i then _ else _)
  by_cases hq : q = ix i
  · rw [if_pos ⟨rfl, hq⟩]
    subst hq
    simp [updV, ix]
  · rw [if_neg (fun h => hq h.2)]
    have hq' : ¬ q = i.toNatClampNeg := hq
    simp [updV, hq']
end
