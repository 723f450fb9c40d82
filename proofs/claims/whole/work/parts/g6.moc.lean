/-! MILLOF'S CASE OF THE LAW -/
theorem wn_1241 : Cond.methodLink R_law 159 m12_thrown.2.1 ∈ ALLG := tk6 41 rfl rfl
theorem wn_1242 : Cond.instanceMethod m12_thrown.2.1 ∈ ALLG := tk6 42 rfl rfl
theorem wn_1243 : Cond.selects "MillBoatsModel" m12_thrown.2.1 m12_thrown.2.1 ∈ ALLG := tk6 43 rfl rfl
theorem wn_1244 : Cond.code m12_thrown.2.1 m12_thrown.2.2.1 m12_thrown.2.2.2.1 m12_thrown.2.2.2.2 ∈ ALLG := tk6 44 rfl rfl
theorem wn_1915 : Cond.methodLink R_law 158 m12_millOf.2.1 ∈ ALLG := tk8 235 rfl rfl
theorem wn_1916 : Cond.instanceMethod m12_millOf.2.1 ∈ ALLG := tk8 236 rfl rfl
theorem wn_1917 : Cond.selects "MillBoatsModel" m12_millOf.2.1 m12_millOf.2.1 ∈ ALLG := tk8 237 rfl rfl
theorem wn_1918 : Cond.code m12_millOf.2.1 m12_millOf.2.2.1 m12_millOf.2.2.2.1 m12_millOf.2.2.2.2 ∈ ALLG := tk8 238 rfl rfl
theorem good_yB : GoodIn ALLG (va_wsS R_law 153 yB WSB) := fun w hw => by
  have g : ∀ w, w ∈ ALLG → w ∈ ALLG ∧ ((w.onTables && w.keeps) = true ∨ ∃ ty, w = .arrayClass ty) := fun w h => ⟨h, good_of_word (List.mem_filter.mp h).2⟩
  have hw2 : w ∈ ([.methodLink R_law 153 yB, .static yB, .initialized yB.cls] : List Cond) ++ WSB := hw
  rcases List.mem_append.mp hw2 with h | h
  · rcases List.mem_cons.mp h with h | h
    · rw [h]; exact g _ wn_1167
    rcases List.mem_cons.mp h with h | h
    · rw [h]; exact g _ wn_1168
    rcases List.mem_cons.mp h with h | h
    · rw [h]; exact g _ wn_0
    · cases h
  · rcases List.mem_cons.mp h with h | h
    · rw [h]; exact g _ wn_1169
    · exact g _ h
theorem desc_yB : yB.cls ≠ "java/lang/invoke/MethodHandle" ∧ yB.cls ≠ "java/lang/invoke/VarHandle" ∧ (parseMethodDescriptor yB.desc).map (fun d => d.parameters.length) = some 4 := ⟨by decide +kernel, by decide +kernel, by decide +kernel⟩
section
variable {p : Program} {l : Launch} {e : Env} {s : State} {m : MethodId} {below : List Frame} {meth : Method} {c : Code} {b L : Nat} {xs : Nat → Int32} {cy dC : Nat → ClassId} {dI : Nat → Nat → Nat} {gN gU pc : Nat} {lv lv2 : List (Nat × Value)} {sk sk2 : List Value} {σ : St}
theorem lw_moY (K : LKx p s m meth c b L xs) (TX : Tx s.heap.size s) (I : INV σ) (hg : gN ≤ 512 ∧ gU ≤ 3072) {k w r : Int32} (hr : f11_millOf σ 1 k w = some (r, σ))
    (kk : Lw p l e s m below meth c b cy dC dI (gN + 1) (gU + 6) 1424 lv [.int 0] (wL σ 153 0 r.toInt64)) : Lw p l e s m below meth c b cy dC dI gN gU 1421 lv [.ref 153, .int w, .int k, .ref 1] σ := by
  intro ad H locs ls hC hb hS hW hl
  obtain ⟨hx, hbc, hret, hml, hown, hlk, hts, hX, hbl, -⟩ := K
  have rm := I.room
  have hz : sN σ < STR := by unfold STR; omega
  have cw := vx_cwSW (Ts := ALLG) (R := room_1) (s := s) (args := #[Value.ref b]) (ws := WSB) (rm := rmOf 20 1 6) (mc := 1) (ms := 6) 4 hts good_yB rfl rfl rfl desc_yB ⟨(by decide : 20 + 1 ≤ 2048), (by decide : 8 + (5 + 11) + 40 * 20 ≤ 84000)⟩
  have hrun := vx_runSX (e := e) (below := below) (meth := meth) (H := H) (locs := locs) (cells := sN σ + gN) (slots := sU σ + gU) (As := ([Value.ref 1, .int k, .int w, .ref 153].map (sh ad))) (rest := []) (g := F0 m 1421 ls ([Value.ref 153, .int w, .int k, .ref 1].map (sh ad))) ⟨hx, hbc, hml, hown, hts⟩ (mo_good (l := l) (ad := ad) (cy := cy) (dC := dC) (dI := dI) (B0 := s.heap.size) I.lay hz hr) cw ⟨blindX, fun U hU hWm => ⟨rfl, hC.go hWm hS hU, by rw [hU]; exact hW, TX.go hWm hS hU⟩⟩ rfl rfl hl.1 rfl (by show 2 * 0 + 0 ≤ 8; decide) dl_1421 ⟨(by show _ ≤ 601024; omega : sN σ + gN + 1 ≤ room_1.cells), (by show _ ≤ 7293034; omega : sU σ + gU + 6 ≤ room_1.slots)⟩
  intro T hT9 X
  rcases hrun T hT9 X with ⟨v, st₀, t, T', L', h0, X', hL, e1, e2, ⟨⟨hv, hw⟩, hF⟩, st⟩ | ⟨q, st₀, t, T', L', E, ce, h0, X', hL, e1, e2, hx9, hce, hcv, hcl, st⟩
  · have hv2 : v = some (.int 0) := by cases hv; rfl
    subst hv2
    obtain ⟨-, -, hS1⟩ := vx_keep (A1 := Aof s.heap.size) (free := Aof s.heap.size) h0 e1 hS (fun q _ h => h) (fun q h => h) hL hF
    obtain ⟨t2, a1, b1⟩ := kk ad T'.heap (locs ++ L') ls hC hb hS1 (by rw [e1]; exact hw) hl T' rfl X'
    exact ⟨t2, st t2 a1, b1⟩
  · exact hx9.elim
theorem shl_h {N g Z i6 : Nat} {ad : Nat → Nat} (hN : N < STR) (h3 : 153 ≤ N) : shl (adh N g Z ad) (lvS i6) = shl ad (lvS i6) := by
  show [(4, Value.int (nI i6)), (3, .ref (adh N g Z ad 153)), (2, .ref (adh N g Z ad 101)), (1, .ref (adh N g Z ad 1)), (0, .ref (adh N g Z ad SCR))] = [(4, Value.int (nI i6)), (3, .ref (ad 153)), (2, .ref (ad 101)), (1, .ref (ad 1)), (0, .ref (ad SCR))]
  rw [adh_lo (x := 153) h3, adh_lo (x := 101) (by omega), adh_lo (x := 1) (by omega), adh_hi (x := SCR) hN (Nat.le_add_right _ _) (Nat.add_lt_add_left (by decide) _)]
theorem lw_moN (K : LKx p s m meth c b L xs) (hfl : l.stackTraces = false) (TX : Tx s.heap.size s) (I : INV σ) (hg : gN ≤ 512 ∧ gU ≤ 3072) {i6 : Nat} {k w r : Int32} (hr : f8_has σ 2 k = some (r, σ)) (hbad : r = 0 ∨ w < 0 ∨ ¬ w ≤ 7)
    (kk : ∀ ρ : Nat → Nat, (∀ r, r ≤ sN σ → ρ r = r) → Lw p l e s m below meth c b cy dC dI (gN + 1) (gU + 6) 1424 (lvS i6) [.int 1] (sq ρ σ)) : Lw p l e s m below meth c b cy dC dI gN gU 1421 (lvS i6) [.ref 153, .int w, .int k, .ref 1] σ := by
  intro ad H locs ls hC hb hS hW hl
  obtain ⟨hx, hbc, hret, hml, hown, hlk, hts, hX, hbl, -⟩ := K
  have rm := I.room
  have hz : sN σ < STR := by unfold STR; omega
  have cw := vx_cwSW (Ts := ALLG) (R := room_1) (s := s) (args := #[Value.ref b]) (ws := WSB) (rm := rmOf 20 1 6) (mc := 1) (ms := 6) 4 hts good_yB rfl rfl rfl desc_yB ⟨(by decide : 20 + 1 ≤ 2048), (by decide : 8 + (5 + 11) + 40 * 20 ≤ 84000)⟩
  have hrun := vx_runSX (e := e) (below := below) (meth := meth) (H := H) (locs := locs) (cells := sN σ + gN) (slots := sU σ + gU) (As := ([Value.ref 1, .int k, .int w, .ref 153].map (sh ad))) (rest := []) (g := F0 m 1421 ls ([Value.ref 153, .int w, .int k, .ref 1].map (sh ad))) ⟨hx, hbc, hml, hown, hts⟩ (mo_bad (l := l) hfl (ad := ad) (cy := cy) (dC := dC) (dI := dI) (B0 := s.heap.size) I.lay hz hr hbad) cw ⟨blindX, fun U hU hWm => ⟨rfl, hC.go hWm hS hU, by rw [hU]; exact hW, TX.go hWm hS hU⟩⟩ rfl rfl hl.1 rfl (by show 2 * 0 + 0 ≤ 8; decide) dl_1421 ⟨(by show _ ≤ 601024; omega : sN σ + gN + 1 ≤ room_1.cells), (by show _ ≤ 7293034; omega : sU σ + gU + 6 ≤ room_1.slots)⟩
  intro T hT9 X
  rcases hrun T hT9 X with ⟨v, st₀, t, T', L', h0, X', hL, e1, e2, ⟨hv, hP, hD, hF⟩, st⟩ | ⟨q, st₀, t, T', L', E, ce, h0, X', hL, e1, e2, hx9, hce, hcv, hcl, st⟩
  · have hv2 : v = some (.int 1) := by cases hv; rfl
    subst hv2
    obtain ⟨hsz, -, hS1⟩ := vx_keep (A1 := Aof s.heap.size) (free := Aof s.heap.size) h0 e1 hS (fun q _ h => h) (fun q h => h) hL hF
    have hdg := hW.2.2
    have ew := wld_h (g := T'.heap.size - H.size) (cy := cy) hz hdg
    have hW2 : Wd (adh (sN σ) (T'.heap.size - H.size) H.size ad) cy dC dI s.heap.size (sq (rh (sN σ) (T'.heap.size - H.size)) σ) T'.heap := by
      refine ⟨?_, ?_, fun j hj => ?_⟩
      · rw [ew, e1]; exact hP
      · rw [ew]; exact hD
      · have := adh_mid (g := T'.heap.size - H.size) (Z := H.size) (ad := ad) (N := sN σ) (j := j) hj
        refine this.trans ?_
        omega
    have hb2 : adh (sN σ) (T'.heap.size - H.size) H.size ad SCR = b := (adh_hi (x := SCR) hz (Nat.le_add_right _ _) (Nat.add_lt_add_left (by decide) _)).trans hb
    obtain ⟨t2, a1, b1⟩ := kk (rh (sN σ) (T'.heap.size - H.size)) (fun r hr => rh_lo hr) (adh (sN σ) (T'.heap.size - H.size) H.size ad) T'.heap (locs ++ L') ls (Cx_h hz hC) hb2 hS1 hW2 (by rw [shl_h hz I.lay.2.2]; exact hl) T' rfl X'
    exact ⟨t2, st t2 a1, b1⟩
  · exact hx9.elim
theorem lw_lcmp (K : LKx p s m meth c b L xs) {x y : Int64} (hd : decode code pc = .ok (.lcmp, 1)) (k : Lw p l e s m below meth c b cy dC dI gN gU (pc + 1) lv (.int (lg_cmp x y) :: sk) σ) : Lw p l e s m below meth c b cy dC dI gN gU pc lv (.long y :: .long x :: sk) σ :=
  lw_pure k (fun H locs cells slots Q ls ad hl kk => W.lcmp K.1 K.2.1 hd (kk ls hl))
theorem lw_ne1 (K : LKx p s m meth c b L xs) {x : Int32} {off : Int} {tgt : Nat} (hc : ¬ x = 0) (ht : (pc : Int) + off = (tgt : Int)) (hd : decode code pc = .ok (.ifCond .ne off, 3)) (k : Lw p l e s m below meth c b cy dC dI gN gU tgt lv sk σ) : Lw p l e s m below meth c b cy dC dI gN gU pc lv (.int x :: sk) σ :=
  lw_pure k (fun H locs cells slots Q ls ad hl kk => lv_if_ne K.1 K.2.1 hd ht (fun _ => kk ls hl) (fun h => absurd h hc))
theorem lw_ne0 (K : LKx p s m meth c b L xs) {x : Int32} {off : Int} {tgt : Nat} (hc : x = 0) (ht : (pc : Int) + off = (tgt : Int)) (hd : decode code pc = .ok (.ifCond .ne off, 3)) (k : Lw p l e s m below meth c b cy dC dI gN gU (pc + 3) lv sk σ) : Lw p l e s m below meth c b cy dC dI gN gU pc lv (.int x :: sk) σ :=
  lw_pure k (fun H locs cells slots Q ls ad hl kk => lv_if_ne K.1 K.2.1 hd ht (fun h => absurd hc h) (fun _ => kk ls hl))
theorem lw_eq1 (K : LKx p s m meth c b L xs) {x : Int32} {off : Int} {tgt : Nat} (hc : x = 0) (ht : (pc : Int) + off = (tgt : Int)) (hd : decode code pc = .ok (.ifCond .eq off, 3)) (k : Lw p l e s m below meth c b cy dC dI gN gU tgt lv sk σ) : Lw p l e s m below meth c b cy dC dI gN gU pc lv (.int x :: sk) σ :=
  lw_pure k (fun H locs cells slots Q ls ad hl kk => lv_if_eq K.1 K.2.1 hd ht (fun _ => kk ls hl) (fun h => absurd hc h))
theorem cmp_rf (x : Int64) : lg_cmp x x = 0 := by
  unfold lg_cmp
  simp
/-- from the class's answer on: y = 0 or 1, whether it threw; the reference's must be the same -/
theorem lw_mo2 (K : LKx p s m meth c b L xs) {i6 : Nat} {y r : Int32} {τ : St} (hj : i6 + 5 < L) (hg : gN ≤ 513 ∧ gU ≤ 3078) (I1 : INV σ) (I2 : INV τ) (h2 : f12_millOf σ 101 (xs (i6 + 1)) (xs (i6 + 2)) = some (r, τ)) (hth : sI τ 101 0 = y) (hy : y = 0 ∧ sL τ 153 0 = r.toInt64 ∨ ¬ y = 0)
    (next : Lw p l e s m below meth c b cy dC dI gN gU 1537 (lvS i6) [] τ) : Lw p l e s m below meth c b cy dC dI gN gU 1424 (lvS i6) [.int y] σ := by
  have rm := I2.room
  have c2 := s12_millOf _ _ _ _ _ _ h2
  have c3 : Call 2 m12_thrown [.ref 101] τ (some (.int y)) τ := s12_thrown τ 101 y τ (by unfold f12_thrown; rw [gd_t (oL101 I2.lay), hth])
  refine lw_istore K (i := 5) (lv2 := [(5, .int y), (4, .int (nI i6)), (3, .ref 153), (2, .ref 101), (1, .ref 1), (0, .ref SCR)]) (by decide) rfl dl_1424 ?_
  refine lw_aload_n K (j := 2) (i := 2) (q := 3) (x := 101) rfl rfl dl_1426 ?_
  refine lw_arg K (q0 := 5) (q4 := 1) (i6 := i6) (n := 1) rfl rfl (by decide) (by omega) dl_1427 dl_1428 dl_1430 dl_1431 dl_1432 ?_
  refine lw_arg K (q0 := 5) (q4 := 1) (i6 := i6) (n := 2) rfl rfl (by decide) (by omega) dl_1433 dl_1434 dl_1436 dl_1437 dl_1438 ?_
  refine lw_callV K (vs := [.int (xs (i6 + 1)), .int (xs (i6 + 2))]) (sk := []) cls12 (oL101 I1.lay) c2 (by decide) (Nat.le_of_ble_eq_true rfl) wn_1915 wn_1916 wn_1917 w19 wn_1918 k12_millOf rfl (Nat.le_of_ble_eq_true rfl) (by omega) (by omega) dl_1439 ?_
  refine lw_istore K (i := 6) (lv2 := [(6, .int r), (5, .int y), (4, .int (nI i6)), (3, .ref 153), (2, .ref 101), (1, .ref 1), (0, .ref SCR)]) (by decide) rfl dl_1442 ?_
  refine lw_aload_n K (j := 2) (i := 2) (q := 4) (x := 101) rfl rfl dl_1444 ?_
  refine lw_callV K (vs := []) (sk := []) cls12 (oL101 I2.lay) c3 (by decide) (Nat.le_of_ble_eq_true rfl) wn_1241 wn_1242 wn_1243 w19 wn_1244 k12_thrown rfl (Nat.le_of_ble_eq_true rfl) (by omega) (by omega) dl_1445 ?_
  refine lw_iload K (i := 5) (q := 1) (x := y) rfl dl_1448 ?_
  refine lw_same K (tgt := 1455) (by decide) dl_1450 ?_
  refine lw_iload K (i := 5) (q := 1) (x := y) rfl dl_1455 ?_
  have fin : Lw p l e s m below meth c b cy dC dI gN gU 1472 [(6, .int r), (5, .int y), (4, .int (nI i6)), (3, .ref 153), (2, .ref 101), (1, .ref 1), (0, .ref SCR)] [] τ := lw_goto K (tgt := 1537) (by decide) dl_1472 (lw_sub [2, 3, 4, 5, 6] rfl next)
  rcases hy with ⟨h0, h1⟩ | h0
  · refine lw_ne0 K (tgt := 1472) h0 (by decide) dl_1457 ?_
    refine lw_aload_n K (j := 3) (i := 3) (q := 3) (x := 153) rfl rfl dl_1460 ?_
    refine lw_iconst K (v := 0) (by decide) dl_1461 ?_
    refine lw_lald K (a := 153) (i := 0) (oL153 I2.lay) (inb_n (k := 0) (lL153 I2.lay) (by decide) (by decide)) dl_1462 ?_
    have e0 : sL τ 153 (ix 0) = r.toInt64 := h1
    rw [e0]
    refine lw_iload K (i := 6) (q := 0) (x := r) rfl dl_1463 ?_
    refine lw_i2l K dl_1465 ?_
    refine lw_lcmp K dl_1466 ?_
    refine lw_eq1 K (tgt := 1472) (cmp_rf _) (by decide) dl_1467 fin
  · exact lw_ne1 K (tgt := 1472) h0 (by decide) dl_1457 fin
theorem law_MOC (K : LKx p s m meth c b L xs) (hfl : l.stackTraces = false) (TX : Tx s.heap.size s) : MOC p l e s m below meth c b L cy dC dI := by
  intro gN gU i6 σ hj hg I next
  refine lw_aload_n K (j := 1) (i := 1) (q := 3) (x := 1) rfl rfl dl_1407 ?_
  refine lw_arg K (q0 := 4) (q4 := 0) (i6 := i6) (n := 1) rfl rfl (by decide) (by omega) dl_1408 dl_1409 dl_1411 dl_1412 dl_1413 ?_
  refine lw_arg K (q0 := 4) (q4 := 0) (i6 := i6) (n := 2) rfl rfl (by decide) (by omega) dl_1414 dl_1415 dl_1417 dl_1418 dl_1419 ?_
  refine lw_aload_n K (j := 3) (i := 3) (q := 1) (x := 153) rfl rfl dl_1420 ?_
  by_cases hok : (0 ≤ xs (i6 + 1) ∧ xs (i6 + 1) < sI σ 2 5) ∧ (0 ≤ xs (i6 + 2) ∧ xs (i6 + 2) ≤ 7)
  · obtain ⟨r, hr⟩ := mo_val I hok
    obtain ⟨h2, I1, I2⟩ := mo_yes I r hr hok
    refine lw_moY K TX I hg hr ?_
    exact lw_mo2 K hj (by omega) I1 I2 h2 (sI_w1 _ _ _ _) (Or.inl ⟨rfl, (show (if 153 = 153 ∧ 0 = 0 then r.toInt64 else sL σ 153 0) = r.toInt64 from if_pos ⟨rfl, rfl⟩)⟩) (next _ _ _ I2 (Nat.le_refl _) (Nat.le_refl _))
  · obtain ⟨⟨r, hr, hbad⟩, -, -⟩ := mo_no I hok
    refine lw_moN K hfl TX I hg hr hbad (fun ρ hρ => ?_)
    have I1 := INV_sq I hρ
    obtain ⟨-, h2, I2⟩ := mo_no I1 (k := xs (i6 + 1)) (w := xs (i6 + 2)) hok
    exact lw_mo2 K hj (by omega) I1 I2 h2 (sI_w1 _ _ _ _) (Or.inr (by decide)) (next _ _ _ I2 (Nat.le_refl _) (Nat.le_refl _))
end
