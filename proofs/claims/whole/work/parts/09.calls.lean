theorem sl_len {ad : Nat → Nat} {vs : List Value} : (lg_sl (vs.map (sh ad))).length = (lg_sl vs).length := by
  induction vs with
  | nil => rfl
  | cons v vs ih =>
    rw [List.map_cons]
    show ((if (sh ad v).category = 2 then [Slot.val (sh ad v), .second] else [.val (sh ad v)]) ++ lg_sl (vs.map (sh ad))).length = ((if v.category = 2 then [Slot.val v, .second] else [.val v]) ++ lg_sl vs).length
    rw [List.length_append, List.length_append, ih, sh_cat]
    by_cases h : v.category = 2
    · rw [if_pos h, if_pos h]; rfl
    · rw [if_neg h, if_neg h]; rfl
theorem shl_args {ad : Nat → Nat} {vs : List Value} : ∀ {i : Nat}, shl ad (lv_args i vs) = lv_args i (vs.map (sh ad)) := by
  induction vs with
  | nil => intro i; rfl
  | cons v vs ih =>
    intro i
    show (i, sh ad v) :: shl ad (lv_args (if v.category = 2 then i + 2 else i + 1) vs) = (i, sh ad v) :: lv_args (if (sh ad v).category = 2 then i + 2 else i + 1) (vs.map (sh ad))
    rw [sh_cat, ih]
/-! CALLS, over Ev and Call -/
section
variable {d : Nat} {M : MD} {pc : Nat} {lv : List (Nat × Value)} {sk : List Value} {σ τ : St} {r : Option Value}
theorem good_all {M : MD} {w : Cond} (h : w ∈ ALLG) : w ∈ WS M ∧ ((w.onTables && w.keeps) = true ∨ ∃ ty, w = .arrayClass ty) := ⟨List.mem_cons_of_mem _ h, good_of_word (List.mem_filter.mp h).2⟩
theorem good_ws {M Z : MD} (hc : Cond.code Z.2.1 Z.2.2.1 Z.2.2.2.1 Z.2.2.2.2 ∈ ALLG) : GoodIn (WS M) (WS Z) := fun w hw => by
  rcases List.mem_cons.mp hw with h | h
  · rw [h]; exact good_all hc
  · exact good_all h
theorem blind {ad : Nat → Nat} {cy dC : Nat → ClassId} {dI : Nat → Nat → Nat} {B0 : Nat} {vs : List Value} : FrameBlind (va_Pc vs (fun U => Cx ad cy dC dI B0 U ∧ Wd ad cy dC dI B0 σ U.heap)) := fun a U g mk h => ⟨h.1, h.2.1.calling, h.2.2⟩
/-- the end of a call: what came back stands on the stack -/
theorem x_call {p : Program} {l : Launch} {e : Env} {R : Room} {s : State} {m : MethodId} {args : Array Value} {below : List Frame} {meth : Method} {c : Code} {H : Heap} {locs : List Loc} {cells slots mc ms : Nat} {Q : State → Prop} {ls : Array Slot} {st0 rest : List Value} {a : Array Value} {ρ : St} {r1 : Option Value}
    {ad : Nat → Nat} {cy dC : Nat → ClassId} {dI : Nat → Nat → Nat} {B0 : Nat} (hr : va_Run p l e R s m args below meth c H locs cells slots mc ms (F0 m pc ls st0) rest (Qe ad cy dC dI B0 r1 ρ a) (Aof B0)) (hS : va_S (Aof B0) s.heap H locs)
    (kk : ∀ (H1 : Heap) (locs1 : List Loc), Wd ad cy dC dI B0 ρ H1 → va_S (Aof B0) s.heap H1 locs1 → W p l e R s m args below meth c H1 locs1 (cells + mc) (slots + ms) Q (F0 m (pc + 3) ls ((r1.map (sh ad)).toList ++ rest))) : W p l e R s m args below meth c H locs cells slots Q (F0 m pc ls st0) := by
  intro T hT X
  obtain ⟨v, st₀, t, T', L, h0, X', hL, e1, e2, ⟨⟨hv, hw⟩, hz, hk⟩, st⟩ := hr T hT X
  have hv2 : v = r1.map (sh ad) := by cases hv; rfl
  subst hv2
  rw [h0] at hz hk
  obtain ⟨t2, a1, b1⟩ := kk T'.heap (locs ++ L) (by rw [e1]; exact hw) ⟨Nat.le_trans hS.1 (by rw [e1]; exact hz), fun q h1 h2 => by rw [e1, hk q (Nat.lt_of_lt_of_le h1 hS.1) h2]; exact hS.2.1 q h1 h2, fun q hq => by
      rcases List.mem_append.mp hq with h | h
      · exact hS.2.2 q h
      · exact hL q h⟩ T' rfl X'
  exact ⟨t2, st t2 a1, b1⟩
theorem map_stack {ad : Nat → Nat} {vs : List Value} {b : Nat} {sk st0 : List Value} (h : vs.reverse ++ .ref b :: sk = st0) : st0.map (sh ad) = (vs.map (sh ad)).reverse ++ .ref (ad b) :: sk.map (sh ad) := by
  subst h
  rw [List.map_append, List.map_reverse, List.map_cons]
  rfl
theorem map_stackS {ad : Nat → Nat} {vs : List Value} {sk st0 : List Value} (h : vs.reverse ++ sk = st0) : st0.map (sh ad) = (vs.map (sh ad)).reverse ++ sk.map (sh ad) := by
  subst h
  rw [List.map_append, List.map_reverse]
theorem map_cat {ad : Nat → Nat} {sk : List Value} : (sk.map (sh ad)).map (fun v => v.category) = sk.map (fun v => v.category) := by
  rw [List.map_map]
  exact List.map_congr_left (fun v _ => sh_cat ad v)
/-- a call's name: not a handle's; so many parameters -/
def okY (y : MethodName) (n : Nat) : Prop := y.cls ≠ "java/lang/invoke/MethodHandle" ∧ y.cls ≠ "java/lang/invoke/VarHandle" ∧ (parseMethodDescriptor y.desc).map (fun d => d.parameters.length) = some n
theorem ev_callV {d2 idx : Nat} {Z : MD} {b : Nat} {vs st0 : List Value} {ρ : St} {r1 : Option Value} {ci : Nat} {C : String} {T : u_T} {N : Nat} (cf : Cls ci C T N) (hob : ob σ b ci = true) (hc : Call d2 Z (.ref b :: vs) σ r1 ρ) (hd2 : d2 + 1 ≤ d) (hL : Z.2.2.2.1 ≤ 21) (hw1 : Cond.methodLink M.1 idx Z.2.1 ∈ ALLG) (hw2 : Cond.instanceMethod Z.2.1 ∈ ALLG) (hw3 : Cond.selects C Z.2.1 Z.2.1 ∈ ALLG) (hw4 : Cond.initialized Z.2.1.cls ∈ ALLG) (hw5 : Cond.code Z.2.1 Z.2.2.1 Z.2.2.2.1 Z.2.2.2.2 ∈ ALLG) (hy : okY Z.2.1 vs.length)
    (hst : vs.reverse ++ .ref b :: sk = st0) (hcat : (sk.map fun v => v.category).sum ≤ 8) (hd : decode M.2.2.1 pc = .ok (.invokevirtual idx, 3)) (k : Ev d M (pc + 3) lv (r1.toList ++ sk) ρ r τ) : Ev d M pc lv st0 σ r τ := by
  have hm1 : sN σ ≤ sN ρ := hc.1.1
  have hm2 : sU σ ≤ sU ρ := hc.1.2.1
  have hm3 : sN ρ ≤ sN τ := k.1.1
  have hm4 : sU ρ ≤ sU τ := k.1.2.1
  refine ⟨mono_tr hc.1 k.1, ?_⟩
  intro p l e s m args below meth c H locs ls ad cy dC dI B0 n0 u0 K hz h1 h2 hS hW hl
  obtain ⟨hx, hb, hret, hml, hown, hlk, hmn, hts, hC⟩ := id K
  obtain ⟨hk9, ha1, ha2⟩ := ob_spec hob
  have hg := wld_get (ad := ad) (cy := cy) ha1 ha2
  rw [cel_ob hk9 cf.2.1] at hg
  have hCB := callB_of (Ts := WS M) (R := rmOf d (sN τ - n0) (sU τ - u0)) (rm := rmOf d2 (sN ρ - sN σ) (sU ρ - sU σ)) vs.length hts (good_ws hw5) rfl rfl rfl (fin_word hts hw4) (fin_word hts hw1) hy ⟨hd2, by show 8 + (Z.2.2.2.1 + 11) + 40 * d2 ≤ 40 * d; omega⟩
  refine x_call (va_runV (As := vs.map (sh ad)) (rest := sk.map (sh ad)) (g := F0 m pc ls (st0.map (sh ad))) ⟨hx, hb, hml, hown, hts⟩ (hc.2 l ad cy dC dI B0 (by omega)) ⟨hCB, fin_word hts hw2, fin_word hts hw3⟩ ⟨blind, va_recv hC.1 hW.1 cf.1 hg, fun U hU hWm => ⟨rfl, hC.go hWm hS hU, by rw [hU]; exact hW⟩⟩ rfl (by rw [List.length_map]) hl.1 (map_stack hst) (lv_room (by rw [map_cat]; exact hcat)) hd ⟨(by show _ ≤ sN τ - n0; omega : (sN σ - n0) + (sN ρ - sN σ) ≤ _), (by show _ ≤ sU τ - u0; omega : (sU σ - u0) + (sU ρ - sU σ) ≤ _)⟩) hS (fun H1 locs1 hW1 hS1 => ?_)
  rw [show sN σ - n0 + (sN ρ - sN σ) = sN ρ - n0 by omega, show sU σ - u0 + (sU ρ - sU σ) = sU ρ - u0 by omega]
  have e9 : (r1.toList ++ sk).map (sh ad) = (r1.map (sh ad)).toList ++ sk.map (sh ad) := by cases r1 <;> rfl
  rw [← e9]
  exact k.2 p l e s m args below meth c H1 locs1 ls ad cy dC dI B0 n0 u0 K hz (by omega) (by omega) hS1 hW1 hl
theorem ev_callVN {d2 idx : Nat} {Z : MD} {host : String} {b : Nat} {vs st0 : List Value} {ρ : St} {r1 : Option Value} {ci : Nat} {C : String} {T : u_T} {N : Nat} (cf : Cls ci C T N) (hob : ob σ b ci = true) (hc : Call d2 Z (.ref b :: vs) σ r1 ρ) (hd2 : d2 + 1 ≤ d) (hL : Z.2.2.2.1 ≤ 21) (hw1 : Cond.methodLinkNest M.1 idx Z.2.1 host ∈ NESTL) (hw2 : Cond.instanceMethod Z.2.1 ∈ ALLG) (hw3 : Cond.selects C Z.2.1 Z.2.1 ∈ ALLG) (hw4 : Cond.initialized Z.2.1.cls ∈ ALLG) (hw5 : Cond.code Z.2.1 Z.2.2.1 Z.2.2.2.1 Z.2.2.2.2 ∈ ALLG) (hy : okY Z.2.1 vs.length)
    (hst : vs.reverse ++ .ref b :: sk = st0) (hcat : (sk.map fun v => v.category).sum ≤ 8) (hd : decode M.2.2.1 pc = .ok (.invokevirtual idx, 3)) (k : Ev d M (pc + 3) lv (r1.toList ++ sk) ρ r τ) : Ev d M pc lv st0 σ r τ := by
  have hm1 : sN σ ≤ sN ρ := hc.1.1
  have hm2 : sU σ ≤ sU ρ := hc.1.2.1
  have hm3 : sN ρ ≤ sN τ := k.1.1
  have hm4 : sU ρ ≤ sU τ := k.1.2.1
  refine ⟨mono_tr hc.1 k.1, ?_⟩
  intro p l e s m args below meth c H locs ls ad cy dC dI B0 n0 u0 K hz h1 h2 hS hW hl
  obtain ⟨hx, hb, hret, hml, hown, hlk, hmn, hts, hC⟩ := id K
  obtain ⟨hk9, ha1, ha2⟩ := ob_spec hob
  have hg := wld_get (ad := ad) (cy := cy) ha1 ha2
  rw [cel_ob hk9 cf.2.1] at hg
  have hCB := va_cnB (Ts := WS M) (R := rmOf d (sN τ - n0) (sU τ - u0)) (rm := rmOf d2 (sN ρ - sN σ) (sU ρ - sU σ)) vs.length hts (good_ws hw5) rfl rfl rfl (nest_use rfl (hC.2.1 _ hw1)) (fin_word hts hw4) hy ⟨hd2, by show 8 + (Z.2.2.2.1 + 11) + 40 * d2 ≤ 40 * d; omega⟩
  refine x_call (va_runVN (As := vs.map (sh ad)) (rest := sk.map (sh ad)) (g := F0 m pc ls (st0.map (sh ad))) ⟨hx, hb, hml, hown, hts⟩ (hc.2 l ad cy dC dI B0 (by omega)) ⟨hCB, fin_word hts hw2, fin_word hts hw3⟩ ⟨blind, va_recv hC.1 hW.1 cf.1 hg, fun U hU hWm => ⟨rfl, hC.go hWm hS hU, by rw [hU]; exact hW⟩⟩ rfl (by rw [List.length_map]) hl.1 (map_stack hst) (lv_room (by rw [map_cat]; exact hcat)) hd ⟨(by show _ ≤ sN τ - n0; omega : (sN σ - n0) + (sN ρ - sN σ) ≤ _), (by show _ ≤ sU τ - u0; omega : (sU σ - u0) + (sU ρ - sU σ) ≤ _)⟩) hS (fun H1 locs1 hW1 hS1 => ?_)
  rw [show sN σ - n0 + (sN ρ - sN σ) = sN ρ - n0 by omega, show sU σ - u0 + (sU ρ - sU σ) = sU ρ - u0 by omega]
  have e9 : (r1.toList ++ sk).map (sh ad) = (r1.map (sh ad)).toList ++ sk.map (sh ad) := by cases r1 <;> rfl
  rw [← e9]
  exact k.2 p l e s m args below meth c H1 locs1 ls ad cy dC dI B0 n0 u0 K hz (by omega) (by omega) hS1 hW1 hl
theorem ev_callS {d2 idx : Nat} {Z : MD} {vs st0 : List Value} {ρ : St} {r1 : Option Value} (hc : Call d2 Z vs σ r1 ρ) (hd2 : d2 + 1 ≤ d) (hL : Z.2.2.2.1 ≤ 21) (hw1 : Cond.methodLink M.1 idx Z.2.1 ∈ ALLG) (hw2 : Cond.static Z.2.1 ∈ ALLG) (hw4 : Cond.initialized Z.2.1.cls ∈ ALLG) (hw5 : Cond.code Z.2.1 Z.2.2.1 Z.2.2.2.1 Z.2.2.2.2 ∈ ALLG) (hy : okY Z.2.1 vs.length)
    (hst : vs.reverse ++ sk = st0) (hcat : (sk.map fun v => v.category).sum ≤ 8) (hd : decode M.2.2.1 pc = .ok (.invokestatic idx, 3)) (k : Ev d M (pc + 3) lv (r1.toList ++ sk) ρ r τ) : Ev d M pc lv st0 σ r τ := by
  have hm1 : sN σ ≤ sN ρ := hc.1.1
  have hm2 : sU σ ≤ sU ρ := hc.1.2.1
  have hm3 : sN ρ ≤ sN τ := k.1.1
  have hm4 : sU ρ ≤ sU τ := k.1.2.1
  refine ⟨mono_tr hc.1 k.1, ?_⟩
  intro p l e s m args below meth c H locs ls ad cy dC dI B0 n0 u0 K hz h1 h2 hS hW hl
  obtain ⟨hx, hb, hret, hml, hown, hlk, hmn, hts, hC⟩ := id K
  have hCB := callB_of (Ts := WS M) (R := rmOf d (sN τ - n0) (sU τ - u0)) (rm := rmOf d2 (sN ρ - sN σ) (sU ρ - sU σ)) vs.length hts (good_ws hw5) rfl rfl rfl (fin_word hts hw4) (fin_word hts hw1) hy ⟨hd2, by show 8 + (Z.2.2.2.1 + 11) + 40 * d2 ≤ 40 * d; omega⟩
  refine x_call (va_runS (As := vs.map (sh ad)) (rest := sk.map (sh ad)) (g := F0 m pc ls (st0.map (sh ad))) ⟨hx, hb, hml, hown, hts⟩ (hc.2 l ad cy dC dI B0 (by omega)) ⟨hCB, fin_word hts hw2⟩ ⟨blind, fun U hU hWm => ⟨rfl, hC.go hWm hS hU, by rw [hU]; exact hW⟩⟩ rfl (by rw [List.length_map]) hl.1 (map_stackS hst) (lv_room (by rw [map_cat]; exact hcat)) hd ⟨(by show _ ≤ sN τ - n0; omega : (sN σ - n0) + (sN ρ - sN σ) ≤ _), (by show _ ≤ sU τ - u0; omega : (sU σ - u0) + (sU ρ - sU σ) ≤ _)⟩) hS (fun H1 locs1 hW1 hS1 => ?_)
  rw [show sN σ - n0 + (sN ρ - sN σ) = sN ρ - n0 by omega, show sU σ - u0 + (sU ρ - sU σ) = sU ρ - u0 by omega]
  have e9 : (r1.toList ++ sk).map (sh ad) = (r1.map (sh ad)).toList ++ sk.map (sh ad) := by cases r1 <;> rfl
  rw [← e9]
  exact k.2 p l e s m args below meth c H1 locs1 ls ad cy dC dI B0 n0 u0 K hz (by omega) (by omega) hS1 hW1 hl
theorem ev_callSN {d2 idx : Nat} {Z : MD} {host : String} {vs st0 : List Value} {ρ : St} {r1 : Option Value} (hc : Call d2 Z vs σ r1 ρ) (hd2 : d2 + 1 ≤ d) (hL : Z.2.2.2.1 ≤ 21) (hw1 : Cond.methodLinkNest M.1 idx Z.2.1 host ∈ NESTL) (hw2 : Cond.static Z.2.1 ∈ ALLG) (hw4 : Cond.initialized Z.2.1.cls ∈ ALLG) (hw5 : Cond.code Z.2.1 Z.2.2.1 Z.2.2.2.1 Z.2.2.2.2 ∈ ALLG) (hy : okY Z.2.1 vs.length)
    (hst : vs.reverse ++ sk = st0) (hcat : (sk.map fun v => v.category).sum ≤ 8) (hd : decode M.2.2.1 pc = .ok (.invokestatic idx, 3)) (k : Ev d M (pc + 3) lv (r1.toList ++ sk) ρ r τ) : Ev d M pc lv st0 σ r τ := by
  have hm1 : sN σ ≤ sN ρ := hc.1.1
  have hm2 : sU σ ≤ sU ρ := hc.1.2.1
  have hm3 : sN ρ ≤ sN τ := k.1.1
  have hm4 : sU ρ ≤ sU τ := k.1.2.1
  refine ⟨mono_tr hc.1 k.1, ?_⟩
  intro p l e s m args below meth c H locs ls ad cy dC dI B0 n0 u0 K hz h1 h2 hS hW hl
  obtain ⟨hx, hb, hret, hml, hown, hlk, hmn, hts, hC⟩ := id K
  have hCB := va_cnB (Ts := WS M) (R := rmOf d (sN τ - n0) (sU τ - u0)) (rm := rmOf d2 (sN ρ - sN σ) (sU ρ - sU σ)) vs.length hts (good_ws hw5) rfl rfl rfl (nest_use rfl (hC.2.1 _ hw1)) (fin_word hts hw4) hy ⟨hd2, by show 8 + (Z.2.2.2.1 + 11) + 40 * d2 ≤ 40 * d; omega⟩
  refine x_call (va_runSN (As := vs.map (sh ad)) (rest := sk.map (sh ad)) (g := F0 m pc ls (st0.map (sh ad))) ⟨hx, hb, hml, hown, hts⟩ (hc.2 l ad cy dC dI B0 (by omega)) ⟨hCB, fin_word hts hw2, trivial⟩ ⟨blind, fun U hU hWm => ⟨rfl, hC.go hWm hS hU, by rw [hU]; exact hW⟩⟩ rfl (by rw [List.length_map]) hl.1 (map_stackS hst) (lv_room (by rw [map_cat]; exact hcat)) hd ⟨(by show _ ≤ sN τ - n0; omega : (sN σ - n0) + (sN ρ - sN σ) ≤ _), (by show _ ≤ sU τ - u0; omega : (sU σ - u0) + (sU ρ - sU σ) ≤ _)⟩) hS (fun H1 locs1 hW1 hS1 => ?_)
  rw [show sN σ - n0 + (sN ρ - sN σ) = sN ρ - n0 by omega, show sU σ - u0 + (sU ρ - sU σ) = sU ρ - u0 by omega]
  have e9 : (r1.toList ++ sk).map (sh ad) = (r1.map (sh ad)).toList ++ sk.map (sh ad) := by cases r1 <;> rfl
  rw [← e9]
  exact k.2 p l e s m args below meth c H1 locs1 ls ad cy dC dI B0 n0 u0 K hz (by omega) (by omega) hS1 hW1 hl
theorem ev_callI {d2 idx : Nat} {Z : MD} {b : Nat} {vs st0 : List Value} {ρ : St} {r1 : Option Value} (hc : Call d2 Z (.ref b :: vs) σ r1 ρ) (hd2 : d2 + 1 ≤ d) (hL : Z.2.2.2.1 ≤ 21) (hw1 : Cond.methodLink M.1 idx Z.2.1 ∈ ALLG) (hw2 : Cond.instanceMethod Z.2.1 ∈ ALLG) (hn3 : Z.2.1.name = "<init>") (hw4 : Cond.initialized Z.2.1.cls ∈ ALLG) (hw5 : Cond.code Z.2.1 Z.2.2.1 Z.2.2.2.1 Z.2.2.2.2 ∈ ALLG) (hret9 : Z.2.2.2.2 = none) (hy : okY Z.2.1 vs.length)
    (hst : vs.reverse ++ .ref b :: sk = st0) (hcat : (sk.map fun v => v.category).sum ≤ 8) (hd : decode M.2.2.1 pc = .ok (.invokespecial idx, 3)) (k : Ev d M (pc + 3) lv (r1.toList ++ sk) ρ r τ) : Ev d M pc lv st0 σ r τ := by
  have hm1 : sN σ ≤ sN ρ := hc.1.1
  have hm2 : sU σ ≤ sU ρ := hc.1.2.1
  have hm3 : sN ρ ≤ sN τ := k.1.1
  have hm4 : sU ρ ≤ sU τ := k.1.2.1
  refine ⟨mono_tr hc.1 k.1, ?_⟩
  intro p l e s m args below meth c H locs ls ad cy dC dI B0 n0 u0 K hz h1 h2 hS hW hl
  obtain ⟨hx, hb, hret, hml, hown, hlk, hmn, hts, hC⟩ := id K
  have hCB := callB_of (Ts := WS M) (R := rmOf d (sN τ - n0) (sU τ - u0)) (rm := rmOf d2 (sN ρ - sN σ) (sU ρ - sU σ)) vs.length hts (good_ws hw5) rfl rfl rfl (fin_word hts hw4) (fin_word hts hw1) hy ⟨hd2, by show 8 + (Z.2.2.2.1 + 11) + 40 * d2 ≤ 40 * d; omega⟩
  rw [hret9] at hCB
  refine x_call (va_runI (As := vs.map (sh ad)) (rest := sk.map (sh ad)) (g := F0 m pc ls (st0.map (sh ad))) ⟨hx, hb, hml, hown, hts⟩ (hc.2 l ad cy dC dI B0 (by omega)) ⟨hCB, hn3, fin_word hts hw2⟩ ⟨blind, fun U hU hWm => ⟨rfl, hC.go hWm hS hU, by rw [hU]; exact hW⟩⟩ rfl (by rw [List.length_map]) hl.1 (map_stack hst) (lv_room (by rw [map_cat]; exact hcat)) hd ⟨(by show _ ≤ sN τ - n0; omega : (sN σ - n0) + (sN ρ - sN σ) ≤ _), (by show _ ≤ sU τ - u0; omega : (sU σ - u0) + (sU ρ - sU σ) ≤ _)⟩) hS (fun H1 locs1 hW1 hS1 => ?_)
  rw [show sN σ - n0 + (sN ρ - sN σ) = sN ρ - n0 by omega, show sU σ - u0 + (sU ρ - sU σ) = sU ρ - u0 by omega]
  have e9 : (r1.toList ++ sk).map (sh ad) = (r1.map (sh ad)).toList ++ sk.map (sh ad) := by cases r1 <;> rfl
  rw [← e9]
  exact k.2 p l e s m args below meth c H1 locs1 ls ad cy dC dI B0 n0 u0 K hz (by omega) (by omega) hS1 hW1 hl
theorem ev_callIN {d2 idx : Nat} {Z : MD} {host : String} {b : Nat} {vs st0 : List Value} {ρ : St} {r1 : Option Value} (hc : Call d2 Z (.ref b :: vs) σ r1 ρ) (hd2 : d2 + 1 ≤ d) (hL : Z.2.2.2.1 ≤ 21) (hw1 : Cond.methodLinkNest M.1 idx Z.2.1 host ∈ NESTL) (hw2 : Cond.instanceMethod Z.2.1 ∈ ALLG) (hn3 : Z.2.1.name = "<init>") (hw4 : Cond.initialized Z.2.1.cls ∈ ALLG) (hw5 : Cond.code Z.2.1 Z.2.2.1 Z.2.2.2.1 Z.2.2.2.2 ∈ ALLG) (hret9 : Z.2.2.2.2 = none) (hy : okY Z.2.1 vs.length)
    (hst : vs.reverse ++ .ref b :: sk = st0) (hcat : (sk.map fun v => v.category).sum ≤ 8) (hd : decode M.2.2.1 pc = .ok (.invokespecial idx, 3)) (k : Ev d M (pc + 3) lv (r1.toList ++ sk) ρ r τ) : Ev d M pc lv st0 σ r τ := by
  have hm1 : sN σ ≤ sN ρ := hc.1.1
  have hm2 : sU σ ≤ sU ρ := hc.1.2.1
  have hm3 : sN ρ ≤ sN τ := k.1.1
  have hm4 : sU ρ ≤ sU τ := k.1.2.1
  refine ⟨mono_tr hc.1 k.1, ?_⟩
  intro p l e s m args below meth c H locs ls ad cy dC dI B0 n0 u0 K hz h1 h2 hS hW hl
  obtain ⟨hx, hb, hret, hml, hown, hlk, hmn, hts, hC⟩ := id K
  have hCB := va_cnB (Ts := WS M) (R := rmOf d (sN τ - n0) (sU τ - u0)) (rm := rmOf d2 (sN ρ - sN σ) (sU ρ - sU σ)) vs.length hts (good_ws hw5) rfl rfl rfl (nest_use rfl (hC.2.1 _ hw1)) (fin_word hts hw4) hy ⟨hd2, by show 8 + (Z.2.2.2.1 + 11) + 40 * d2 ≤ 40 * d; omega⟩
  rw [hret9] at hCB
  refine x_call (va_runIN (As := vs.map (sh ad)) (rest := sk.map (sh ad)) (g := F0 m pc ls (st0.map (sh ad))) ⟨hx, hb, hml, hown, hts⟩ (hc.2 l ad cy dC dI B0 (by omega)) ⟨hCB, hn3, fin_word hts hw2⟩ ⟨blind, fun U hU hWm => ⟨rfl, hC.go hWm hS hU, by rw [hU]; exact hW⟩⟩ rfl (by rw [List.length_map]) hl.1 (map_stack hst) (lv_room (by rw [map_cat]; exact hcat)) hd ⟨(by show _ ≤ sN τ - n0; omega : (sN σ - n0) + (sN ρ - sN σ) ≤ _), (by show _ ≤ sU τ - u0; omega : (sU σ - u0) + (sU ρ - sU σ) ≤ _)⟩) hS (fun H1 locs1 hW1 hS1 => ?_)
  rw [show sN σ - n0 + (sN ρ - sN σ) = sN ρ - n0 by omega, show sU σ - u0 + (sU ρ - sU σ) = sU ρ - u0 by omega]
  have e9 : (r1.toList ++ sk).map (sh ad) = (r1.map (sh ad)).toList ++ sk.map (sh ad) := by cases r1 <;> rfl
  rw [← e9]
  exact k.2 p l e s m args below meth c H1 locs1 ls ad cy dC dI B0 n0 u0 K hz (by omega) (by omega) hS1 hW1 hl
theorem ev_objInit {a idx : Nat} (hw1 : Cond.methodLink M.1 idx Lib.objectInit ∈ ALLG) (hw2 : Cond.instanceMethod Lib.objectInit ∈ ALLG) (hw3 : Cond.code Lib.objectInit ⟨#[0xb1]⟩ 1 none ∈ ALLG) (hd1 : 1 ≤ d) (hcat : (sk.map fun v => v.category).sum ≤ 8)
    (hd : decode M.2.2.1 pc = .ok (.invokespecial idx, 3)) (k : Ev d M (pc + 3) lv sk σ r τ) : Ev d M pc lv (.ref a :: sk) σ r τ := by
  refine ⟨k.1, ?_⟩
  intro p l e s m args below meth c H locs ls ad cy dC dI B0 n0 u0 K hz h1 h2 hS hW hl
  obtain ⟨hx, hb, hret, hml, hown, hlk, hmn, hts, hC⟩ := id K
  have e8 : ((sk.map (sh ad)).map fun v => v.category).sum ≤ 8 := by rw [map_cat]; exact hcat
  exact W.objInit hx hb hown (fin_word hts hw1) (fin_word hts hw2) (fin_word hts hw3) rfl (hl.1.trans hml.symm) rfl hd hd1 (by show 2 * 0 + _ + 12 ≤ 40 * d; omega) (k.2 p l e s m args below meth c H locs ls ad cy dC dI B0 n0 u0 K hz h1 h2 hS hW hl)
/-- from the walk of the body to the call -/
theorem Call.of {Z : MD} {vs : List Value} {ρ : St} {r1 : Option Value} (hy : plainFor Z.2.1 = true) (hcls : Z.2.1.cls = Z.1) (hlen : (lg_sl vs).length ≤ Z.2.2.2.1) (k : Ev d Z 0 (lv_args 0 vs) [] σ r1 ρ) : Call d Z vs σ r1 ρ := by
  refine ⟨k.1, ?_⟩
  intro l ad cy dC dI B0 hz
  refine va_MetF (cc := Z.2.2.1) (maxL := Z.2.2.2.1) (ret := Z.2.2.2.2) hy rfl ?_
  intro p e s m args below meth c s₁ B hml hv
  obtain ⟨rfl, hC, hW⟩ := hv
  have hts := atoms_spec (ws := WS Z) B.pre
  have hown : s.vm.findClass Z.1 = some m.cls := hcls ▸ findClass_of_methodNamed B.named
  have hlen2 : (lg_sl (vs.map (sh ad))).length ≤ Z.2.2.2.1 := by rw [sl_len]; exact hlen
  have hl := lv_entry (vs.map (sh ad)) (n := Z.2.2.2.1) hlen2
  rw [lg_entry_eq]
  generalize (lg_sl (vs.map (sh ad)) ++ List.replicate (Z.2.2.2.1 - (lg_sl (vs.map (sh ad))).length) Slot.unset).toArray = ls at hl ⊢
  rw [← shl_args] at hl
  have kk := k.2 p l e s m _ below meth c s.heap [] ls ad cy dC dI B0 (sN σ) (sU σ) ⟨B.exec, B.bytes, B.returns, hml, hown, B.notSynchronized, (name_of_methodNamed B.named B.method).1, hts, hC⟩ hz (Nat.le_refl _) (Nat.le_refl _) va_S.rf hW hl
  rw [Nat.sub_self, Nat.sub_self] at kk
  exact kk
end
