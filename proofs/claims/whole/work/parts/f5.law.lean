/-! THE LAW'S BODY, row by row -/
/-- the script's number among the cells -/
def SCR : Nat := STR + 200
def LKx (p : Program) (s : State) (m : MethodId) (meth : Method) (c : Code) (b L : Nat) (xs : Nat → Int32) : Prop :=
  p.tables.exec = Jvm.exec ∧ c.code = code ∧ meth.sig.returnType = ret ∧ c.maxLocals = 7 ∧ s.vm.findClass R_law = some m.cls ∧ meth.locks = false ∧ (∀ w ∈ ALLG, w.before #[Value.ref b] s = true) ∧ va_X b L xs s s.heap ∧ b < s.heap.size ∧ L ≤ 3072
/-- from here the law comes to its end with true; gN cells of gU slots lie about unused -/
def Lw (p : Program) (l : Launch) (e : Env) (s : State) (m : MethodId) (below : List Frame) (meth : Method) (c : Code) (b : Nat) (cy dC : Nat → ClassId) (dI : Nat → Nat → Nat) (gN gU pc : Nat) (lv : List (Nat × Value)) (sk : List Value) (σ : St) : Prop :=
  ∀ (ad : Nat → Nat) (H : Heap) (locs : List Loc) (ls : Array Slot), Cx ad cy dC dI s.heap.size s → ad SCR = b → va_S (Aof s.heap.size) s.heap H locs → Wd ad cy dC dI s.heap.size σ H → lv_has ls 7 (shl ad lv) →
    W p l e room_1 s m #[Value.ref b] below meth c H locs (sN σ + gN) (sU σ + gU) (lw_Z below #[Value.ref b] s) (F0 m pc ls (sk.map (sh ad)))
section
variable {p : Program} {l : Launch} {e : Env} {s : State} {m : MethodId} {below : List Frame} {meth : Method} {c : Code} {b L : Nat} {xs : Nat → Int32} {cy dC : Nat → ClassId} {dI : Nat → Nat → Nat} {gN gU pc : Nat} {lv lv2 : List (Nat × Value)} {sk sk2 : List Value} {σ : St}
theorem lw_pure {pc2 : Nat} (k : Lw p l e s m below meth c b cy dC dI gN gU pc2 lv2 sk2 σ)
    (h : ∀ (H : Heap) (locs : List Loc) (cells slots : Nat) (Q : State → Prop) (ls : Array Slot) (ad : Nat → Nat), lv_has ls 7 (shl ad lv) → (∀ ls2, lv_has ls2 7 (shl ad lv2) → W p l e room_1 s m #[Value.ref b] below meth c H locs cells slots Q (F0 m pc2 ls2 (sk2.map (sh ad)))) → W p l e room_1 s m #[Value.ref b] below meth c H locs cells slots Q (F0 m pc ls (sk.map (sh ad)))) : Lw p l e s m below meth c b cy dC dI gN gU pc lv sk σ :=
  fun ad H locs ls hC hb hS hW hl => h H locs _ _ _ ls ad hl (fun ls2 hl2 => k ad H locs ls2 hC hb hS hW hl2)
theorem lw_iconst (K : LKx p s m meth c b L xs) {n : Int} {v : Int32} (hv : Int32.ofInt n = v) (hd : decode code pc = .ok (.iconst n, 1)) (k : Lw p l e s m below meth c b cy dC dI gN gU (pc + 1) lv (.int v :: sk) σ) : Lw p l e s m below meth c b cy dC dI gN gU pc lv sk σ :=
  lw_pure k (fun H locs cells slots Q ls ad hl kk => lv_iconst K.1 K.2.1 hd hv (kk ls hl))
theorem lw_bipush (K : LKx p s m meth c b L xs) {n : Int} {v : Int32} (hv : (Int8.ofInt n).toInt32 = v) (hd : decode code pc = .ok (.bipush n, 2)) (k : Lw p l e s m below meth c b cy dC dI gN gU (pc + 2) lv (.int v :: sk) σ) : Lw p l e s m below meth c b cy dC dI gN gU pc lv sk σ :=
  lw_pure k (fun H locs cells slots Q ls ad hl kk => lv_bipush K.1 K.2.1 hd hv (kk ls hl))
theorem lw_iload (K : LKx p s m meth c b L xs) {i q : Nat} {x : Int32} (hk : lv[q]? = some (i, .int x)) (hd : decode code pc = .ok (.iload i, 2)) (k : Lw p l e s m below meth c b cy dC dI gN gU (pc + 2) lv (.int x :: sk) σ) : Lw p l e s m below meth c b cy dC dI gN gU pc lv sk σ :=
  lw_pure k (fun H locs cells slots Q ls ad hl kk => lv_iload K.1 K.2.1 hd (lv_at hl q (shl_at hk)) (kk ls hl))
theorem lw_aload_n (K : LKx p s m meth c b L xs) {j : Fin 4} {i q : Nat} {x : Nat} (hi : (j : Nat) = i) (hk : lv[q]? = some (i, .ref x)) (hd : decode code pc = .ok (.aload_n j, 1)) (k : Lw p l e s m below meth c b cy dC dI gN gU (pc + 1) lv (.ref x :: sk) σ) : Lw p l e s m below meth c b cy dC dI gN gU pc lv sk σ :=
  lw_pure k (fun H locs cells slots Q ls ad hl kk => lv_aload_n K.1 K.2.1 hd hi (lv_at hl q (shl_at hk)) (kk ls hl))
theorem lw_istore (K : LKx p s m meth c b L xs) {i : Nat} {x : Int32} (hn : i < 7) (hs : lset i (.int x) lv = lv2) (hd : decode code pc = .ok (.istore i, 2)) (k : Lw p l e s m below meth c b cy dC dI gN gU (pc + 2) lv2 sk σ) : Lw p l e s m below meth c b cy dC dI gN gU pc lv (.int x :: sk) σ :=
  lw_pure k (fun H locs cells slots Q ls ad hl kk => lv_istore K.1 K.2.1 hd hl hn (by rw [← hs, shl_lset]; rfl) kk)
theorem lw_astore_n (K : LKx p s m meth c b L xs) {j : Fin 4} {i x : Nat} (hi : (j : Nat) = i) (hn : i < 7) (hs : lset i (.ref x) lv = lv2) (hd : decode code pc = .ok (.astore_n j, 1)) (k : Lw p l e s m below meth c b cy dC dI gN gU (pc + 1) lv2 sk σ) : Lw p l e s m below meth c b cy dC dI gN gU pc lv (.ref x :: sk) σ :=
  lw_pure k (fun H locs cells slots Q ls ad hl kk => lv_astore_n K.1 K.2.1 hd hi hl hn (by rw [← hs, shl_lset]; rfl) kk)
theorem lw_iinc (K : LKx p s m meth c b L xs) {i q : Nat} {n : Int} {x v : Int32} (hk : lv[q]? = some (i, .int x)) (hv : x + Int32.ofInt n = v) (hn : i < 7) (hs : lset i (.int v) lv = lv2) (hd : decode code pc = .ok (.iinc i n, 3)) (k : Lw p l e s m below meth c b cy dC dI gN gU (pc + 3) lv2 sk σ) : Lw p l e s m below meth c b cy dC dI gN gU pc lv sk σ :=
  lw_pure k (fun H locs cells slots Q ls ad hl kk => lv_iinc (k := q) K.1 K.2.1 hd hl (shl_at hk) hv hn (by rw [← hs, shl_lset]; rfl) kk)
theorem lw_iadd (K : LKx p s m meth c b L xs) {x y : Int32} (hd : decode code pc = .ok (.iadd, 1)) (k : Lw p l e s m below meth c b cy dC dI gN gU (pc + 1) lv (.int (x + y) :: sk) σ) : Lw p l e s m below meth c b cy dC dI gN gU pc lv (.int y :: .int x :: sk) σ :=
  lw_pure k (fun H locs cells slots Q ls ad hl kk => lv_iadd K.1 K.2.1 hd (kk ls hl))
theorem lw_isub (K : LKx p s m meth c b L xs) {x y : Int32} (hd : decode code pc = .ok (.isub, 1)) (k : Lw p l e s m below meth c b cy dC dI gN gU (pc + 1) lv (.int (x - y) :: sk) σ) : Lw p l e s m below meth c b cy dC dI gN gU pc lv (.int y :: .int x :: sk) σ :=
  lw_pure k (fun H locs cells slots Q ls ad hl kk => lv_isub K.1 K.2.1 hd (kk ls hl))
theorem lw_iand (K : LKx p s m meth c b L xs) {x y : Int32} (hd : decode code pc = .ok (.iand, 1)) (k : Lw p l e s m below meth c b cy dC dI gN gU (pc + 1) lv (.int (x &&& y) :: sk) σ) : Lw p l e s m below meth c b cy dC dI gN gU pc lv (.int y :: .int x :: sk) σ :=
  lw_pure k (fun H locs cells slots Q ls ad hl kk => lv_iand K.1 K.2.1 hd (kk ls hl))
theorem lw_i2l (K : LKx p s m meth c b L xs) {x : Int32} (hd : decode code pc = .ok (.i2l, 1)) (k : Lw p l e s m below meth c b cy dC dI gN gU (pc + 1) lv (.long x.toInt64 :: sk) σ) : Lw p l e s m below meth c b cy dC dI gN gU pc lv (.int x :: sk) σ :=
  lw_pure k (fun H locs cells slots Q ls ad hl kk => lv_i2l K.1 K.2.1 hd rfl (kk ls hl))
theorem lw_goto (K : LKx p s m meth c b L xs) {off : Int} {tgt : Nat} (ht : (pc : Int) + off = (tgt : Int)) (hd : decode code pc = .ok (.goto off, 3)) (k : Lw p l e s m below meth c b cy dC dI gN gU tgt lv sk σ) : Lw p l e s m below meth c b cy dC dI gN gU pc lv sk σ :=
  lw_pure k (fun H locs cells slots Q ls ad hl kk => lv_goto K.1 K.2.1 hd ht (kk ls hl))
theorem lw_dup (K : LKx p s m meth c b L xs) {v : Value} (hv : v.category = 1) (hd : decode code pc = .ok (.dup, 1)) (k : Lw p l e s m below meth c b cy dC dI gN gU (pc + 1) lv (v :: v :: sk) σ) : Lw p l e s m below meth c b cy dC dI gN gU pc lv (v :: sk) σ :=
  lw_pure k (fun H locs cells slots Q ls ad hl kk => lv_dup K.1 K.2.1 hd (by rw [sh_cat]; exact hv) (kk ls hl))
theorem lw_tableOut (K : LKx p s m meth c b L xs) {dflt lo hi : Int} {offs : Array Int} {len : Nat} {x : Int32} {tgt : Nat} (hd : decode code pc = .ok (.tableswitch dflt lo hi offs, len)) (h : x.toInt < lo ∨ hi < x.toInt) (ht : (pc : Int) + dflt = (tgt : Int)) (k : Lw p l e s m below meth c b cy dC dI gN gU tgt lv sk σ) : Lw p l e s m below meth c b cy dC dI gN gU pc lv (.int x :: sk) σ :=
  lw_pure k (fun H locs cells slots Q ls ad hl kk => lv_tableOut K.1 K.2.1 hd h ht (kk ls hl))
theorem lw_tableIn (K : LKx p s m meth c b L xs) {dflt lo hi : Int} {offs : Array Int} {len : Nat} {x : Int32} {off : Int} {tgt : Nat} (hd : decode code pc = .ok (.tableswitch dflt lo hi offs, len)) (h1 : ¬ x.toInt < lo) (h2 : ¬ hi < x.toInt) (ho : offs[(x.toInt - lo).toNat]? = some off) (ht : (pc : Int) + off = (tgt : Int)) (k : Lw p l e s m below meth c b cy dC dI gN gU tgt lv sk σ) : Lw p l e s m below meth c b cy dC dI gN gU pc lv (.int x :: sk) σ :=
  lw_pure k (fun H locs cells slots Q ls ad hl kk => lv_tableIn K.1 K.2.1 hd h1 h2 ho ht (kk ls hl))
theorem lw_sld (K : LKx p s m meth c b L xs) {j : Nat} (hj : j < L) (hd : decode code pc = .ok (.iaload, 1)) (k : Lw p l e s m below meth c b cy dC dI gN gU (pc + 1) lv (.int (xs j) :: sk) σ) : Lw p l e s m below meth c b cy dC dI gN gU pc lv (.int (nI j) :: .ref SCR :: sk) σ := by
  intro ad H locs ls hC hb hS hW hl
  obtain ⟨hx, hbc, -, -, -, -, -, hX, hbl, hL⟩ := K
  have e : (.int (nI j) :: .ref SCR :: sk : List Value).map (sh ad) = .int (nI j) :: .ref b :: sk.map (sh ad) := by
    rw [List.map_cons, List.map_cons]
    show Value.int (nI j) :: Value.ref (ad SCR) :: _ = _
    rw [hb]
  rw [e]
  refine va_sld hx hbc hX hbl (show ¬ Aof s.heap.size b from Nat.not_le.mpr hbl) hS (vp_in_iff.mpr ?_) hd ?_
  · rw [nI_toInt (by omega)]; omega
  · have := k ad H locs ls hC hb hS hW hl
    rw [show (nI j).toNatClampNeg = j from nI_clamp (by omega)]
    exact this
theorem lw_slen (K : LKx p s m meth c b L xs) (hd : decode code pc = .ok (.arraylength, 1)) (k : Lw p l e s m below meth c b cy dC dI gN gU (pc + 1) lv (.int (nI L) :: sk) σ) : Lw p l e s m below meth c b cy dC dI gN gU pc lv (.ref SCR :: sk) σ := by
  intro ad H locs ls hC hb hS hW hl
  obtain ⟨hx, hbc, -, -, -, -, -, hX, hbl, hL⟩ := K
  have e : (.ref SCR :: sk : List Value).map (sh ad) = .ref b :: sk.map (sh ad) := by
    rw [List.map_cons]
    show Value.ref (ad SCR) :: _ = _
    rw [hb]
  rw [e]
  exact va_slen hx hbc hX hbl (show ¬ Aof s.heap.size b from Nat.not_le.mpr hbl) hS hd (k ad H locs ls hC hb hS hW hl)
/-- an argument: script[i + n] -/
theorem lw_arg (K : LKx p s m meth c b L xs) {q0 q4 i6 n : Nat} {z : Int} (h0 : lv[q0]? = some (0, .ref SCR)) (h4 : lv[q4]? = some (4, .int (nI i6))) (hz : Int32.ofInt z = nI n) (hj : i6 + n < L) (d0 : decode code pc = .ok (.aload_n 0, 1)) (d1 : decode code (pc + 1) = .ok (.iload 4, 2)) (d3 : decode code (pc + 3) = .ok (.iconst z, 1)) (d4 : decode code (pc + 4) = .ok (.iadd, 1)) (d5 : decode code (pc + 5) = .ok (.iaload, 1))
    (k : Lw p l e s m below meth c b cy dC dI gN gU (pc + 6) lv (.int (xs (i6 + n)) :: sk) σ) : Lw p l e s m below meth c b cy dC dI gN gU pc lv sk σ := by
  refine lw_aload_n K rfl h0 d0 (lw_iload K h4 d1 (lw_iconst K hz d3 (lw_iadd K d4 ?_)))
  rw [nI_add]
  exact lw_sld K hj d5 k
def bz (x : Int32) : Int32 := if x = 0 then 0 else 1
/-- x != 0 as 0 or 1 -/
theorem lw_bz (K : LKx p s m meth c b L xs) {x : Int32} (d0 : decode code pc = .ok (.ifCond .eq 7, 3)) (d3 : decode code (pc + 3) = .ok (.iconst 1, 1)) (d4 : decode code (pc + 4) = .ok (.goto 4, 3)) (d7 : decode code (pc + 7) = .ok (.iconst 0, 1)) (k : Lw p l e s m below meth c b cy dC dI gN gU (pc + 8) lv (.int (bz x) :: sk) σ) : Lw p l e s m below meth c b cy dC dI gN gU pc lv (.int x :: sk) σ := by
  by_cases h : x = 0
  · have e : bz x = 0 := if_pos h
    rw [e] at k
    exact lw_pure (lw_iconst K (v := 0) (by decide) d7 k) (fun H locs cells slots Q ls ad hl kk => lv_if_eq K.1 K.2.1 d0 (by omega) (fun _ => kk ls hl) (fun w => absurd h w))
  · have e : bz x = 1 := if_neg h
    rw [e] at k
    exact lw_pure (lw_iconst K (v := 1) (by decide) d3 (lw_goto K (by omega) d4 k)) (fun H locs cells slots Q ls ad hl kk => lv_if_eq K.1 K.2.1 d0 (tgt := pc + 7) (by omega) (fun w => absurd w h) (fun _ => kk ls hl))
theorem good_alg {Z : MD} (hc : Cond.code Z.2.1 Z.2.2.1 Z.2.2.2.1 Z.2.2.2.2 ∈ ALLG) : GoodIn ALLG (WS Z) := fun w hw => by
  have g : ∀ w, w ∈ ALLG → w ∈ ALLG ∧ ((w.onTables && w.keeps) = true ∨ ∃ ty, w = .arrayClass ty) := fun w h => ⟨h, good_of_word (List.mem_filter.mp h).2⟩
  rcases List.mem_cons.mp hw with h | h
  · rw [h]; exact g _ hc
  · exact g _ h
theorem lw_callV (K : LKx p s m meth c b L xs) {d2 idx : Nat} {Z : MD} {a : Nat} {vs st0 : List Value} {ρ : St} {r1 : Option Value} {ci : Nat} {C : String} {T : u_T} {N : Nat} (cf : Cls ci C T N) (hob : ob σ a ci = true) (hc : Call d2 Z (.ref a :: vs) σ r1 ρ) (hd2 : d2 ≤ 2000) (hL : Z.2.2.2.1 ≤ 21) (hw1 : Cond.methodLink R_law idx Z.2.1 ∈ ALLG) (hw2 : Cond.instanceMethod Z.2.1 ∈ ALLG) (hw3 : Cond.selects C Z.2.1 Z.2.1 ∈ ALLG) (hw4 : Cond.initialized Z.2.1.cls ∈ ALLG) (hw5 : Cond.code Z.2.1 Z.2.2.1 Z.2.2.2.1 Z.2.2.2.2 ∈ ALLG) (hy : okY Z.2.1 vs.length)
    (hst : vs.reverse ++ .ref a :: sk = st0) (hcat : (sk.map fun v => v.category).sum ≤ 8) (hN : sN ρ + gN ≤ 601024) (hU : sU ρ + gU ≤ 7293034) (hd : decode code pc = .ok (.invokevirtual idx, 3)) (k : Lw p l e s m below meth c b cy dC dI gN gU (pc + 3) lv (r1.toList ++ sk) ρ) : Lw p l e s m below meth c b cy dC dI gN gU pc lv st0 σ := by
  intro ad H locs ls hC hb hS hW hl
  obtain ⟨hx, hbc, hret, hml, hown, hlk, hts, hX, hbl, -⟩ := K
  have hm1 : sN σ ≤ sN ρ := hc.1.1
  have hm2 : sU σ ≤ sU ρ := hc.1.2.1
  obtain ⟨hk9, ha1, ha2⟩ := ob_spec hob
  have hg := wld_get (ad := ad) (cy := cy) ha1 ha2
  rw [cel_ob hk9 cf.2.1] at hg
  have hCB := callB_of (Ts := ALLG) (R := room_1) (rm := rmOf d2 (sN ρ - sN σ) (sU ρ - sU σ)) vs.length hts (good_alg hw5) rfl rfl rfl (hts _ hw4) (hts _ hw1) hy ⟨(by show d2 + 1 ≤ 2048; omega : d2 + 1 ≤ room_1.frames), by show 8 + (Z.2.2.2.1 + 11) + 40 * d2 ≤ 84000; omega⟩
  refine x_call (va_runV (As := vs.map (sh ad)) (rest := sk.map (sh ad)) (g := F0 m pc ls (st0.map (sh ad))) ⟨hx, hbc, hml, hown, hts⟩ (hc.2 l ad cy dC dI s.heap.size (by unfold STR; omega)) ⟨hCB, hts _ hw2, hts _ hw3⟩ ⟨blind, va_recv hC.1 hW.1 cf.1 hg, fun U hU hWm => ⟨rfl, hC.go hWm hS hU, by rw [hU]; exact hW⟩⟩ rfl (by rw [List.length_map]) hl.1 (map_stack hst) (lv_room (by rw [map_cat]; exact hcat)) hd ⟨(by show _ ≤ 601024; omega : (sN σ + gN) + (sN ρ - sN σ) ≤ room_1.cells), (by show _ ≤ 7293034; omega : (sU σ + gU) + (sU ρ - sU σ) ≤ room_1.slots)⟩) hS (fun H1 locs1 hW1 hS1 => ?_)
  rw [show sN σ + gN + (sN ρ - sN σ) = sN ρ + gN by omega, show sU σ + gU + (sU ρ - sU σ) = sU ρ + gU by omega]
  have e9 : (r1.toList ++ sk).map (sh ad) = (r1.map (sh ad)).toList ++ sk.map (sh ad) := by cases r1 <;> rfl
  rw [← e9]
  exact k ad H1 locs1 ls hC hb hS1 hW1 hl
theorem lw_callI (K : LKx p s m meth c b L xs) {d2 idx : Nat} {Z : MD} {a : Nat} {vs st0 : List Value} {ρ : St} {r1 : Option Value} (hc : Call d2 Z (.ref a :: vs) σ r1 ρ) (hd2 : d2 ≤ 2000) (hL : Z.2.2.2.1 ≤ 21) (hw1 : Cond.methodLink R_law idx Z.2.1 ∈ ALLG) (hw2 : Cond.instanceMethod Z.2.1 ∈ ALLG) (hn3 : Z.2.1.name = "<init>") (hw4 : Cond.initialized Z.2.1.cls ∈ ALLG) (hw5 : Cond.code Z.2.1 Z.2.2.1 Z.2.2.2.1 Z.2.2.2.2 ∈ ALLG) (hret9 : Z.2.2.2.2 = none) (hy : okY Z.2.1 vs.length)
    (hst : vs.reverse ++ .ref a :: sk = st0) (hcat : (sk.map fun v => v.category).sum ≤ 8) (hN : sN ρ + gN ≤ 601024) (hU : sU ρ + gU ≤ 7293034) (hd : decode code pc = .ok (.invokespecial idx, 3)) (k : Lw p l e s m below meth c b cy dC dI gN gU (pc + 3) lv (r1.toList ++ sk) ρ) : Lw p l e s m below meth c b cy dC dI gN gU pc lv st0 σ := by
  intro ad H locs ls hC hb hS hW hl
  obtain ⟨hx, hbc, hret, hml, hown, hlk, hts, hX, hbl, -⟩ := K
  have hm1 : sN σ ≤ sN ρ := hc.1.1
  have hm2 : sU σ ≤ sU ρ := hc.1.2.1
  have hCB := callB_of (Ts := ALLG) (R := room_1) (rm := rmOf d2 (sN ρ - sN σ) (sU ρ - sU σ)) vs.length hts (good_alg hw5) rfl rfl rfl (hts _ hw4) (hts _ hw1) hy ⟨(by show d2 + 1 ≤ 2048; omega : d2 + 1 ≤ room_1.frames), by show 8 + (Z.2.2.2.1 + 11) + 40 * d2 ≤ 84000; omega⟩
  rw [hret9] at hCB
  refine x_call (va_runI (As := vs.map (sh ad)) (rest := sk.map (sh ad)) (g := F0 m pc ls (st0.map (sh ad))) ⟨hx, hbc, hml, hown, hts⟩ (hc.2 l ad cy dC dI s.heap.size (by unfold STR; omega)) ⟨hCB, hn3, hts _ hw2⟩ ⟨blind, fun U hU hWm => ⟨rfl, hC.go hWm hS hU, by rw [hU]; exact hW⟩⟩ rfl (by rw [List.length_map]) hl.1 (map_stack hst) (lv_room (by rw [map_cat]; exact hcat)) hd ⟨(by show _ ≤ 601024; omega : (sN σ + gN) + (sN ρ - sN σ) ≤ room_1.cells), (by show _ ≤ 7293034; omega : (sU σ + gU) + (sU ρ - sU σ) ≤ room_1.slots)⟩) hS (fun H1 locs1 hW1 hS1 => ?_)
  rw [show sN σ + gN + (sN ρ - sN σ) = sN ρ + gN by omega, show sU σ + gU + (sU ρ - sU σ) = sU ρ + gU by omega]
  have e9 : (r1.toList ++ sk).map (sh ad) = (r1.map (sh ad)).toList ++ sk.map (sh ad) := by cases r1 <;> rfl
  rw [← e9]
  exact k ad H1 locs1 ls hC hb hS1 hW1 hl
theorem lw_new (K : LKx p s m meth c b L xs) {ci : Nat} {C : String} {T : u_T} {N idx : Nat} (cf : Cls ci C T N) (hok : ∀ j, j < N → okTy (tyF ci j) = true) (hw1 : Cond.classLink R_law idx C ∈ ALLG) (hw2 : Cond.instantiable C N ∈ ALLG) (hw3 : Cond.initialized C ∈ ALLG) (hN : sN σ + 1 + gN ≤ 601024) (hU : sU σ + N + gU ≤ 7293034)
    (hd : decode code pc = .ok (.new idx, 3)) (k : Lw p l e s m below meth c b cy dC dI gN gU (pc + 3) lv (.ref (sN σ + 1) :: sk) (wN σ ci N)) : Lw p l e s m below meth c b cy dC dI gN gU pc lv sk σ := by
  intro ad H locs ls hC hb hS hW hl
  obtain ⟨hx, hbc, hret, hml, hown, hlk, hts, hX, hbl, -⟩ := K
  have ea := ad_new hW (by unfold STR; omega)
  have hKn := hC.1.1 ci _ cf.1
  refine W.newcK hx hbc hown (hts _ hw1) (hts _ hw2) (hts _ hw3) rfl hd (by show _ ≤ 601024; omega) (by show _ ≤ 7293034; omega) hKn.2.1 rfl fun H1 kC hkC e1 z1 o1 => ?_
  have hW2 : Wd ad cy dC dI s.heap.size (wN σ ci N) H1 := by
    refine hW.push (cx_B hC hS) rfl (by unfold STR; omega) (fun b hb => cel_wN hb) ?_ z1 o1
    have hk : (sK (wN σ ci N) (sN σ + 1)).1 = ci := by show (if sN σ + 1 = sN σ + 1 then (ci, N) else _).1 = ci; rw [if_pos rfl]
    rw [cel_ob hk cf.2.1]
    refine ⟨_, cf.1, ?_⟩
    refine (u_born (tyF ci) hts (fun w h => cf.2.2.2.1 w h) hKn hkC e1 cf.2.2.2.2.1).to (fun j hj => ?_)
    unfold vp_V
    rw [List.getD_eq_getElem?_getD, flds_at (by rw [cf.2.2.1]; exact hj)]
    show _ = fV ad (tyF ci j) (if sN σ + 1 = sN σ + 1 then 0 else _) (if sN σ + 1 = sN σ + 1 then 0 else _)
    rw [if_pos rfl, if_pos rfl]
    exact okTy_def (hok j hj)
  have kk := k ad H1 locs ls hC hb (hS.grow (by omega) o1) hW2 hl
  rw [show sN (wN σ ci N) + gN = sN σ + gN + 1 from by show sN σ + 1 + gN = _; omega, show sU (wN σ ci N) + gU = sU σ + gU + N from by show sU σ + N + gU = _; omega] at kk
  have kk2 : W p l e room_1 s m #[Value.ref b] below meth c H1 locs (sN σ + gN + 1) (sU σ + gU + N) (lw_Z below #[Value.ref b] s) (F0 m (pc + 3) ls (.ref (ad (sN σ + 1)) :: sk.map (sh ad))) := kk
  rw [ea] at kk2
  exact kk2
theorem lw_newa_long (K : LKx p s m meth c b L xs) {n : Int32} (hw : Cond.arrayClass .long ∈ ALLG) (hn : szOk n = true) (hN : sN σ + 1 + gN ≤ 601024) (hU : sU σ + ix n + gU ≤ 7293034) (hd : decode code pc = .ok (.newarray .long, 2)) (k : Lw p l e s m below meth c b cy dC dI gN gU (pc + 2) lv (.ref (sN σ + 1) :: sk) (wN σ 15 (ix n))) : Lw p l e s m below meth c b cy dC dI gN gU pc lv (.int n :: sk) σ := by
  intro ad H locs ls hC hb hS hW hl
  obtain ⟨hx, hbc, hret, hml, hown, hlk, hts, hX, hbl, -⟩ := K
  obtain ⟨hn0, hn1⟩ := szOk_spec hn
  have ea := ad_new hW (by unfold STR; omega)
  refine va_newaK (N := ix n) (atype := .long) hx hbc (hts _ hw) rfl hd rfl hn0 rfl (Nat.le_trans (Nat.mul_le_mul_right _ hn1) (by decide)) (by show _ ≤ 601024; omega) (by show _ ≤ 7293034; omega) rfl fun H1 cA e1 z1 o1 _ hcA => ?_
  have ecA : cA = cy 15 := ra_prim hC.1 (kd := 15) (t := .long) rfl rfl hcA
  subst ecA
  have hW2 : Wd ad cy dC dI s.heap.size (wN σ 15 (ix n)) H1 := by
    refine hW.push (cx_B hC hS) rfl (by unfold STR; omega) (fun b hb => cel_wN hb) ?_ z1 o1
    have hkk : sK (wN σ 15 (ix n)) (sN σ + 1) = (15, ix n) := if_pos rfl
    have hk : (sK (wN σ 15 (ix n)) (sN σ + 1)).1 = 15 := by rw [hkk]
    rw [cel_l hk, hkk]
    show H1[H.size]? = some (arrV _ _ (fun j => .long (sL (wN σ 15 (ix n)) (sN σ + 1) j)))
    rw [show (fun j => Value.long (sL (wN σ 15 (ix n)) (sN σ + 1) j)) = (fun _ => .long 0) from funext fun j => by show Value.long (if sN σ + 1 = sN σ + 1 then 0 else _) = _; rw [if_pos rfl]]
    exact e1
  have kk := k ad H1 locs ls hC hb (hS.grow (by omega) o1) hW2 hl
  rw [show sN (wN σ 15 (ix n)) + gN = sN σ + gN + 1 from by show sN σ + 1 + gN = _; omega, show sU (wN σ 15 (ix n)) + gU = sU σ + gU + ix n from by show sU σ + ix n + gU = _; omega] at kk
  have kk2 : W p l e room_1 s m #[Value.ref b] below meth c H1 locs (sN σ + gN + 1) (sU σ + gU + ix n) (lw_Z below #[Value.ref b] s) (F0 m (pc + 2) ls (.ref (ad (sN σ + 1)) :: sk.map (sh ad))) := kk
  rw [ea] at kk2
  exact kk2
theorem lw_lald (K : LKx p s m meth c b L xs) {a : Nat} {i : Int32} (hob : ob σ a 15 = true) (hi : inb σ a i = true) (hd : decode code pc = .ok (.laload, 1)) (k : Lw p l e s m below meth c b cy dC dI gN gU (pc + 1) lv (.long (sL σ a (ix i)) :: sk) σ) : Lw p l e s m below meth c b cy dC dI gN gU pc lv (.int i :: .ref a :: sk) σ := by
  intro ad H locs ls hC hb hS hW hl
  obtain ⟨hk, ha1, ha2⟩ := ob_spec hob
  have hg := wld_get (ad := ad) (cy := cy) ha1 ha2
  rw [cel_l hk] at hg
  exact va_lald K.1 K.2.1 hC.1 hW.1 (a - 1) 2 hg rfl (inb_spec hi) hd (k ad H locs ls hC hb hS hW hl)
end
section
variable {p : Program} {l : Launch} {e : Env} {s : State} {m : MethodId} {below : List Frame} {meth : Method} {c : Code} {b L : Nat} {xs : Nat → Int32} {cy dC : Nat → ClassId} {dI : Nat → Nat → Nat} {gN gU pc : Nat} {lv lv2 : List (Nat × Value)} {sk sk2 : List Value} {σ : St}
theorem lw_same (K : LKx p s m meth c b L xs) {x : Int32} {off : Int} {tgt : Nat} (ht : (pc : Int) + off = (tgt : Int)) (hd : decode code pc = .ok (.if_icmp .eq off, 3)) (k : Lw p l e s m below meth c b cy dC dI gN gU tgt lv sk σ) : Lw p l e s m below meth c b cy dC dI gN gU pc lv (.int x :: .int x :: sk) σ :=
  lw_pure k (fun H locs cells slots Q ls ad hl kk => lv_icmp_eq K.1 K.2.1 hd ht (fun _ => kk ls hl) (fun h => absurd rfl h))
theorem lw_gt (K : LKx p s m meth c b L xs) {x y : Int32} {off : Int} {tgt : Nat} (ht : (pc : Int) + off = (tgt : Int)) (hd : decode code pc = .ok (.if_icmp .gt off, 3)) (k1 : y < x → Lw p l e s m below meth c b cy dC dI gN gU tgt lv sk σ) (k2 : ¬ y < x → Lw p l e s m below meth c b cy dC dI gN gU (pc + 3) lv sk σ) : Lw p l e s m below meth c b cy dC dI gN gU pc lv (.int y :: .int x :: sk) σ := by
  by_cases h : y < x
  · exact lw_pure (k1 h) (fun H locs cells slots Q ls ad hl kk => lv_icmp_gt K.1 K.2.1 hd ht (fun _ => kk ls hl) (fun w => absurd h w))
  · exact lw_pure (k2 h) (fun H locs cells slots Q ls ad hl kk => lv_icmp_gt K.1 K.2.1 hd ht (fun w => absurd w h) (fun _ => kk ls hl))
theorem lw_sub (ks : List Nat) (hl : lv_pick lv ks = lv2) (k : Lw p l e s m below meth c b cy dC dI gN gU pc lv2 sk σ) : Lw p l e s m below meth c b cy dC dI gN gU pc lv sk σ :=
  lw_pure k (fun H locs cells slots Q ls ad hv kk => kk ls (lv_sub hv ks (by
    subst hl
    unfold shl lv_pick
    simp only [List.map_filterMap, List.getElem?_map])))
theorem bz_01 (x : Int32) : bz x = 0 ∨ bz x = 1 := by
  unfold bz
  by_cases h : x = 0
  · rw [if_pos h]; exact Or.inl rfl
  · rw [if_neg h]; exact Or.inr rfl
end
/-- the law's locals in its loop -/
def lvS (i6 : Nat) : List (Nat × Value) := [(4, .int (nI i6)), (3, .ref 153), (2, .ref 101), (1, .ref 1), (0, .ref SCR)]
