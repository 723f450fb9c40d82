/-! THE LAW'S OWN MILLOF: returns 0 and puts the answer into the row; 1 where the class threw -/
abbrev yB : MethodName := ⟨"MillBoatsLaw", "millOf", "(LMillBoats;II[J)I"⟩
abbrev hhB : List (Nat × Nat × Nat × Nat) := [(0, 10, 13, 13)]
def WSB : List Cond := Cond.codeWith yB method_3_code 5 (some Jvm.ClassFile.FieldType.int) hhB :: ALLG
theorem dB_0 : decode method_3_code 0 = .ok (.aload_n 3, 1) := by decide +kernel
theorem dB_1 : decode method_3_code 1 = .ok (.iconst 0, 1) := by decide +kernel
theorem dB_2 : decode method_3_code 2 = .ok (.aload_n 0, 1) := by decide +kernel
theorem dB_3 : decode method_3_code 3 = .ok (.iload_n 1, 1) := by decide +kernel
theorem dB_4 : decode method_3_code 4 = .ok (.iload_n 2, 1) := by decide +kernel
theorem dB_5 : decode method_3_code 5 = .ok (.invokevirtual 7, 3) := by decide +kernel
theorem dB_8 : decode method_3_code 8 = .ok (.i2l, 1) := by decide +kernel
theorem dB_9 : decode method_3_code 9 = .ok (.lastore, 1) := by decide +kernel
theorem dB_10 : decode method_3_code 10 = .ok (.goto 7, 3) := by decide +kernel
theorem dB_13 : decode method_3_code 13 = .ok (.astore 4, 2) := by decide +kernel
theorem dB_15 : decode method_3_code 15 = .ok (.iconst 1, 1) := by decide +kernel
theorem dB_16 : decode method_3_code 16 = .ok (.ireturn, 1) := by decide +kernel
theorem dB_17 : decode method_3_code 17 = .ok (.iconst 0, 1) := by decide +kernel
theorem dB_18 : decode method_3_code 18 = .ok (.ireturn, 1) := by decide +kernel
theorem wn_0 : Cond.initialized "MillBoatsLaw" ∈ ALLG := tk1 0 rfl rfl
theorem wn_1167 : Cond.methodLink "MillBoatsLaw" 153 yB ∈ ALLG := tk5 207 rfl rfl
theorem wn_1168 : Cond.static yB ∈ ALLG := tk5 208 rfl rfl
theorem wn_1169 : Cond.codeWith yB method_3_code 5 (some Jvm.ClassFile.FieldType.int) hhB ∈ ALLG := tk5 209 rfl rfl
theorem wn_1170 : Cond.classLink "MillBoatsLaw" 13 NSE ∈ ALLG := tk5 210 rfl rfl
theorem wn_1171 : Cond.methodLink "MillBoatsLaw" 7 m11_millOf.2.1 ∈ ALLG := tk5 211 rfl rfl
theorem wn_1172 : Cond.instanceMethod m11_millOf.2.1 ∈ ALLG := tk5 212 rfl rfl
theorem wn_1173 : Cond.selects "MillBoats" m11_millOf.2.1 m11_millOf.2.1 ∈ ALLG := tk5 213 rfl rfl
theorem wn_1174 : Cond.code m11_millOf.2.1 m11_millOf.2.2.1 m11_millOf.2.2.2.1 m11_millOf.2.2.2.2 ∈ ALLG := tk5 214 rfl rfl
theorem fn_1177 : Cond.castable NSE NSE ∈ FACEL := List.mem_filter.mpr ⟨tm5 (List.mem_of_getElem? (i := 217) rfl), rfl⟩
theorem mo_good {l : Launch} {ad : Nat → Nat} {cy dC : Nat → ClassId} {dI : Nat → Nat → Nat} {B0 : Nat} {σ : St} (L : Lay σ) (hz : sN σ < STR) {k w r : Int32} (hr : f11_millOf σ 1 k w = some (r, σ)) :
    vx_Met l yB WSB (rmOf 20 1 6) (va_Pc ([Value.ref 1, .int k, .int w, .ref 153].map (sh ad)) (PX ad cy dC dI B0 σ)) (Qe ad cy dC dI B0 (some (.int 0)) (wL σ 153 0 r.toInt64)) (fun _ _ _ => False) 1 6 (Aof B0) := by
  refine vx_ofWH (cc := method_3_code) (maxL := 5) (ret := some Jvm.ClassFile.FieldType.int) (hh := hhB) (by decide +kernel) rfl ?_
  intro p e s m args below meth c s₁ B hml hv
  obtain ⟨rfl, hC, hW, hT⟩ := hv
  have hts := atoms_spec (ws := WSB) B.pre
  have hal : ∀ w9 ∈ ALLG, w9.before ([Value.ref 1, .int k, .int w, .ref 153].map (sh ad)).toArray s = true := fun w9 hw => hts w9 (List.mem_cons_of_mem _ hw)
  have hown : s.vm.findClass "MillBoatsLaw" = some m.cls := findClass_of_methodNamed B.named
  have hls := lv_entry ([Value.ref 1, .int k, .int w, .ref 153].map (sh ad)) (n := 5) (by rw [sl_len]; exact Nat.le_of_ble_eq_true rfl)
  rw [lg_entry_eq]
  generalize (lg_sl ([Value.ref 1, .int k, .int w, .ref 153].map (sh ad)) ++ List.replicate (5 - (lg_sl ([Value.ref 1, .int k, .int w, .ref 153].map (sh ad))).length) Slot.unset).toArray = ls at hls ⊢
  rw [← shl_args] at hls
  have hx := B.exec
  have hb := B.bytes
  refine lv_aload_n hx hb dB_0 (i := 3) rfl (lv_at hls 3 rfl) ?_
  refine lv_iconst hx hb dB_1 (v := 0) (by decide) ?_
  refine lv_aload_n hx hb dB_2 (i := 0) rfl (lv_at hls 0 rfl) ?_
  refine lv_iload_n hx hb dB_3 (i := 1) rfl (lv_at hls 1 rfl) ?_
  refine lv_iload_n hx hb dB_4 (i := 2) rfl (lv_at hls 2 rfl) ?_
  have hc := s11_millOf _ _ _ _ _ _ hr
  obtain ⟨hk9, ha1, ha2⟩ := ob_spec (oL1 L)
  have hg1 := wld_get (ad := ad) (cy := cy) ha1 ha2
  rw [cel_ob hk9 cls11.2.1] at hg1
  have hCB := callB_of (Ts := ALLG) (R := rmOf 20 1 6) (rm := rmOf 4 (sN σ - sN σ) (sU σ - sU σ)) 2 hal (good_alg wn_1174) rfl rfl rfl (hal _ w1) (hal _ wn_1171) k11_millOf ⟨(by decide : 4 + 1 ≤ 20), Nat.le_of_ble_eq_true rfl⟩
  refine x_call (va_runV (As := [.int k, .int w]) (rest := [.int 0, .ref (ad 153)]) (g := F0 m 5 ls [.int w, .int k, .ref (ad 1), .int 0, .ref (ad 153)]) ⟨hx, hb, hml, hown, hal⟩ (hc.2 l ad cy dC dI B0 hz) ⟨hCB, hal _ wn_1172, hal _ wn_1173⟩ ⟨blind, va_recv hC.1 hW.1 cls11.1 hg1, fun U hU hWm => ⟨rfl, hC.go hWm va_S.rf hU, by rw [hU]; exact hW⟩⟩ rfl rfl hls.1 rfl (by show 2 * 0 + 2 ≤ 8; decide) dB_5 ⟨by show 0 + (sN σ - sN σ) ≤ 1; omega, by show 0 + (sU σ - sU σ) ≤ 6; omega⟩) va_S.rf (fun H1 locs1 hW1 hS1 => ?_)
  rw [Nat.sub_self, Nat.sub_self]
  refine lv_i2l hx hb dB_8 rfl ?_
  obtain ⟨hk, hb1, hb2⟩ := ob_spec (oL153 L)
  have hg := wld_get (ad := ad) (cy := cy) hb1 hb2
  rw [cel_l hk] at hg
  have hin : vp_in (0 : Int32) (sK σ 153).2 := inb_spec (inb_n (k := 0) (lL153 L) (by decide) (by decide))
  refine W.last hx hb (hW1.1 _ _ hg) ((hC.1.2 2 _ rfl).1 (sK σ 153).2 (fun j => .long (sL σ 153 j))) (fun q => by cases q) (by show ¬ ((0 : Int32) < 0 ∨ (arrV _ _ _).slots.size ≤ _); rw [arrV_size]; exact hin) rfl rfl dB_9 fun H2 e1 e2 e3 => ?_
  have hW2 : Wd ad cy dC dI B0 (wL σ 153 0 r.toInt64) H2 := by
    refine hW1.put hb1 hb2 rfl (fun b hb => cel_wL hb) ?_ e2 e3
    rw [cel_l (σ := wL σ 153 0 r.toInt64) hk]
    show H2[ad 153]? = some (vp_cell _ _)
    rw [e1]
    rw [vp_cell_l, vp_cell_l, arrV_store]
    congr 2
    funext q
    show _ = Value.long (if 153 = 153 ∧ q = 0 then _ else _)
    by_cases hq : q = 0
    · rw [if_pos ⟨rfl, hq⟩]
      subst hq
      simp [updV]
    · rw [if_neg (fun h => hq h.2)]
      simp [updV, hq]
  have hS2 := hS1.put (k := 0) e2 e3 (hW1.in hb1 hb2)
  show W p l e (rmOf 20 1 6) s m ([Value.ref 1, .int k, .int w, .ref 153].map (sh ad)).toArray below meth c H2 (locs1 ++ [⟨ad 153, 0⟩]) 0 0 _ (F0 m 10 ls [])
  refine lv_goto hx hb dB_10 (tgt := 17) (by decide) ?_
  refine lv_iconst hx hb dB_17 (v := 0) (by decide) ?_
  exact vx_ret (W.widen (Nat.zero_le _) (Nat.zero_le _) (W.iret hx hb B.returns (fun t ht2 hWm => ⟨⟨rfl, by rw [ht2]; exact hW2⟩, hS2.F ht2⟩) hS2.2.2 dB_18 B.notSynchronized))
/-- what the law finds where the class threw -/
def QB (ad : Nat → Nat) (cy dC : Nat → ClassId) (dI : Nat → Nat → Nat) (B0 : Nat) (σ : St) : Array Value → State → Outcome → State → Prop :=
  fun _ st o t => o = .returned (some (.int 1)) ∧ va_P (dC, dI) vwCl (wld ad cy σ) t.heap ∧ va_D (Aof B0) (wld ad cy σ) ∧ va_F (Aof B0) st t
theorem mo_bad {l : Launch} (hl : l.stackTraces = false) {ad : Nat → Nat} {cy dC : Nat → ClassId} {dI : Nat → Nat → Nat} {B0 : Nat} {σ : St} (L : Lay σ) (hz : sN σ < STR) {k w r : Int32} (hr : f8_has σ 2 k = some (r, σ)) (hbad : r = 0 ∨ w < 0 ∨ ¬ w ≤ 7) :
    vx_Met l yB WSB (rmOf 20 1 6) (va_Pc ([Value.ref 1, .int k, .int w, .ref 153].map (sh ad)) (PX ad cy dC dI B0 σ)) (QB ad cy dC dI B0 σ) (fun _ _ _ => False) 1 6 (Aof B0) := by
  refine vx_ofWH (cc := method_3_code) (maxL := 5) (ret := some Jvm.ClassFile.FieldType.int) (hh := hhB) (by decide +kernel) rfl ?_
  intro p e s m args below meth c s₁ B hml hv
  obtain ⟨rfl, hC, hW, hT⟩ := hv
  have hts := atoms_spec (ws := WSB) B.pre
  have hal : ∀ w9 ∈ ALLG, w9.before ([Value.ref 1, .int k, .int w, .ref 153].map (sh ad)).toArray s = true := fun w9 hw => hts w9 (List.mem_cons_of_mem _ hw)
  have hown : s.vm.findClass "MillBoatsLaw" = some m.cls := findClass_of_methodNamed B.named
  have hls := lv_entry ([Value.ref 1, .int k, .int w, .ref 153].map (sh ad)) (n := 5) (by rw [sl_len]; exact Nat.le_of_ble_eq_true rfl)
  have htab : c.exceptionTable.toList = [] ++ ({ startPc := 0, endPc := 10, handlerPc := 13, catchType := 13 } : ExceptionTableEntry) :: [] := vx_table (x := yB) B (hh := hhB) (hal _ wn_1169)
  rw [lg_entry_eq]
  generalize (lg_sl ([Value.ref 1, .int k, .int w, .ref 153].map (sh ad)) ++ List.replicate (5 - (lg_sl ([Value.ref 1, .int k, .int w, .ref 153].map (sh ad))).length) Slot.unset).toArray = ls at hls ⊢
  rw [← shl_args] at hls
  have hx := B.exec
  have hb := B.bytes
  refine lv_aload_n hx hb dB_0 (i := 3) rfl (lv_at hls 3 rfl) ?_
  refine lv_iconst hx hb dB_1 (v := 0) (by decide) ?_
  refine lv_aload_n hx hb dB_2 (i := 0) rfl (lv_at hls 0 rfl) ?_
  refine lv_iload_n hx hb dB_3 (i := 1) rfl (lv_at hls 1 rfl) ?_
  refine lv_iload_n hx hb dB_4 (i := 2) rfl (lv_at hls 2 rfl) ?_
  obtain ⟨hk9, ha1, ha2⟩ := ob_spec (oL1 L)
  have hg1 := wld_get (ad := ad) (cy := cy) ha1 ha2
  rw [cel_ob hk9 cls11.2.1] at hg1
  have hCB := callB_of (Ts := ALLG) (R := rmOf 20 1 6) (rm := rmOf 10 1 6) 2 hal (good_alg wn_1174) rfl rfl rfl (hal _ w1) (hal _ wn_1171) k11_millOf ⟨(by decide : 10 + 1 ≤ 20), Nat.le_of_ble_eq_true rfl⟩
  have hrun := vx_runV (e := e) (below := below) (meth := meth) (H := s.heap) (locs := []) (cells := 0) (slots := 0) (C := "MillBoats") (As := [.int k, .int w]) (rest := [.int 0, .ref (ad 153)]) (g := F0 m 5 ls [.int w, .int k, .ref (ad 1), .int 0, .ref (ad 153)]) (b := ad 1) ⟨hx, hb, hml, hown, hal⟩ (mo_throw hl (ad := ad) (cy := cy) (dC := dC) (dI := dI) (B0 := B0) L hz hr hbad) ⟨hCB, hal _ wn_1172, hal _ wn_1173⟩ ⟨blindX, va_recv hC.1 hW.1 cls11.1 hg1, fun U hU hWm => ⟨rfl, hC.go hWm va_S.rf hU, by rw [hU]; exact hW, hT.go hWm va_S.rf hU⟩⟩ rfl rfl hls.1 rfl (by show 2 * 0 + 2 ≤ 8; decide) dB_5 ⟨by show 0 + 1 ≤ 1; decide, by show 0 + 6 ≤ 6; decide⟩
  intro T hT9 X
  rcases hrun T hT9 X with ⟨v, st₀, t, T', L', h0, X', hL, e1, e2, hq, st⟩ | ⟨q, st₀, t, T', L', E, ce, h0, X', hL, e1, e2, hx9, hce, hcv, hcl, st⟩
  · exact hq.elim
  · obtain ⟨rfl, hP, hD, hF⟩ := hx9
    obtain ⟨-, -, hS1⟩ := vx_keep (A1 := Aof B0) (free := Aof B0) h0 e1 va_S.rf (fun q _ h => h) (fun q h => h) hL hF
    rw [← e1] at hP hce
    have kk : vx_W p l e (rmOf 20 1 6) s m ([Value.ref 1, .int k, .int w, .ref 153].map (sh ad)).toArray below meth c T'.heap ([] ++ L') (0 + 1) (0 + 6) (vx_MQ below (QB ad cy dC dI B0 σ) (fun _ _ _ => False) ([Value.ref 1, .int k, .int w, .ref 153].map (sh ad)).toArray s 1 6 (Aof B0)) (F0 m 5 ls [.int 0, .ref (ad 153)]) q := by
      refine vx_catch (own := "MillBoatsLaw") (name := NSE) hown [] _ [] htab (fun z hz => nomatch hz) (by decide) (by decide) (hal _ wn_1170) (va_Nw.use rfl (hT.1 _ fn_1177)) hce hcv hcl ?_
      refine lv_astore hx hb dB_13 hls (by decide) rfl (fun ls2 hl2 => ?_)
      refine lv_iconst hx hb dB_15 (v := 1) (by decide) ?_
      exact vx_ret (W.iret hx hb B.returns (fun t ht2 hWm => ⟨rfl, by rw [ht2]; exact hP, hD, hS1.F ht2⟩) hS1.2.2 dB_16 B.notSynchronized)
    obtain ⟨t2, a1, b1⟩ := kk T' rfl X'
    exact ⟨t2, st.trans a1, b1⟩
