/-! texts: String.length and String.charAt over the constants that the code names -/
def strCh (i k : Nat) : Int32 := (bytS.getD i []).getD k 0 &&& 255
def chOk (i : Nat) (x : Int32) : Bool := decide (0 ≤ x.toInt) && decide (x.toInt < (lenS.getD i 0 : Int))
theorem x_ldcw {p : Program} {l : Launch} {e : Env} {R : Room} {s : State} {m : MethodId} {args : Array Value} {below : List Frame} {meth : Method} {c : Code} {H : Heap} {locs : List Loc} {cells slots : Nat} {Q : State → Prop} {cc : ByteArray} {pc : Nat} {ls : Array Slot} {rest : List Value}
    (hexec : p.tables.exec = Jvm.exec) (hb : c.code = cc) {own tx : String} {index q : Nat} (hown : s.vm.findClass own = some m.cls) (hZ : vk_R own index tx q s) (hdg : decode cc pc = .ok (.ldc_w index, 3))
    (k : W p l e R s m args below meth c H locs cells slots Q (F0 m (pc + 3) ls (.ref q :: rest))) : W p l e R s m args below meth c H locs cells slots Q (F0 m pc ls rest) := by
  have hs1 : (Cond.stringRef own index tx).before #[] s = true := hZ.1
  intro T hT X
  obtain ⟨t, a1, b1⟩ := k T hT X
  refine ⟨t, ?_, b1⟩
  obtain ⟨k, cf, i, a', hk, hcf, hcp, -, hr, hev'⟩ := Cond.stringRef_spec hown hZ.1
  cases hZ.2.symm.trans hev'
  obtain ⟨k', hk', he⟩ := X.warmed.alike.2.2 _ _ hk
  have hr' : k'.resolved[index]? = some (some (.string q)) := by
    rcases X.warmed.entry hk hk' index with h | ⟨h, -⟩
    · rw [h]; exact hr
    · rw [hr] at h; cases h
  have hdg' : decode c.code (F0 m pc ls rest).pc = .ok (.ldc_w index, 3) := by rw [hb]; exact hdg
  jvm_step X.here [hexec, hdg', ldc_w.wp_string (e := e) (s := T) (f := F0 m pc ls rest) X.here.top hk' (by rw [he]; exact hcf) hcp hr']
  exact a1
section
variable {d : Nat} {M : MD} {pc : Nat} {lv : List (Nat × Value)} {sk : List Value} {σ τ : St} {r : Option Value}
theorem ev_ldcS {i idx : Nat} {tx : String} (hm : strL[i]? = some (M.1, idx, tx, i)) (hd : decode M.2.2.1 pc = .ok (.ldc idx, 2)) (k : Ev d M (pc + 2) lv (.ref (STR + i) :: sk) σ r τ) : Ev d M pc lv sk σ r τ := by
  refine ⟨k.1, ?_⟩
  intro p l e s m args below meth c H locs ls ad cy dC dI B0 n0 u0 K hz h1 h2 hS hW hl
  obtain ⟨hx, hb, hret, hml, hown, hlk, hmn, hts, hC⟩ := id K
  exact va_ldcS hx hb hown (hC.2.2.2.2.2.2.1 (M.1, idx, tx, i) (List.mem_of_getElem? hm)) hd (k.2 p l e s m args below meth c H locs ls ad cy dC dI B0 n0 u0 K hz h1 h2 hS hW hl)
theorem ev_ldcwS {i idx : Nat} {tx : String} (hm : strL[i]? = some (M.1, idx, tx, i)) (hd : decode M.2.2.1 pc = .ok (.ldc_w idx, 3)) (k : Ev d M (pc + 3) lv (.ref (STR + i) :: sk) σ r τ) : Ev d M pc lv sk σ r τ := by
  refine ⟨k.1, ?_⟩
  intro p l e s m args below meth c H locs ls ad cy dC dI B0 n0 u0 K hz h1 h2 hS hW hl
  obtain ⟨hx, hb, hret, hml, hown, hlk, hmn, hts, hC⟩ := id K
  exact x_ldcw hx hb hown (hC.2.2.2.2.2.2.1 (M.1, idx, tx, i) (List.mem_of_getElem? hm)) hd (k.2 p l e s m args below meth c H locs ls ad cy dC dI B0 n0 u0 K hz h1 h2 hS hW hl)
theorem ev_sgetV {i idx : Nat} (hi : i < 22) (hM : Cond.fieldLink M.1 idx "java/lang/String" "value" "[B" ∈ ALLG) (hd : decode M.2.2.1 pc = .ok (.getfield idx, 3)) (k : Ev d M (pc + 3) lv (.ref (STR + 32 + i) :: sk) σ r τ) : Ev d M pc lv (.ref (STR + i) :: sk) σ r τ := by
  refine ⟨k.1, ?_⟩
  intro p l e s m args below meth c H locs ls ad cy dC dI B0 n0 u0 K hz h1 h2 hS hW hl
  obtain ⟨hx, hb, hret, hml, hown, hlk, hmn, hts, hC⟩ := id K
  exact vk_getf hx hb (hC.2.2.2.1.1 i hi).2.2.1 hS hown (fin_word hts hM) (fun _ h => h) hd (k.2 p l e s m args below meth c H locs ls ad cy dC dI B0 n0 u0 K hz h1 h2 hS hW hl)
theorem ev_sgetC {i idx : Nat} (hi : i < 22) (hM : Cond.fieldLink M.1 idx "java/lang/String" "coder" "B" ∈ ALLG) (hd : decode M.2.2.1 pc = .ok (.getfield idx, 3)) (k : Ev d M (pc + 3) lv (.int 0 :: sk) σ r τ) : Ev d M pc lv (.ref (STR + i) :: sk) σ r τ := by
  refine ⟨k.1, ?_⟩
  intro p l e s m args below meth c H locs ls ad cy dC dI B0 n0 u0 K hz h1 h2 hS hW hl
  obtain ⟨hx, hb, hret, hml, hown, hlk, hmn, hts, hC⟩ := id K
  exact vk_getf hx hb (hC.2.2.2.1.1 i hi).2.1 hS hown (fin_word hts hM) (fun _ h => h) hd (k.2 p l e s m args below meth c H locs ls ad cy dC dI B0 n0 u0 K hz h1 h2 hS hW hl)
theorem ev_gets {idx : Nat} (hM : Cond.fieldLink M.1 idx "java/lang/String" "COMPACT_STRINGS" "Z" ∈ ALLG) (hd : decode M.2.2.1 pc = .ok (.getstatic idx, 3)) (k : Ev d M (pc + 3) lv (.int 1 :: sk) σ r τ) : Ev d M pc lv sk σ r τ := by
  refine ⟨k.1, ?_⟩
  intro p l e s m args below meth c H locs ls ad cy dC dI B0 n0 u0 K hz h1 h2 hS hW hl
  obtain ⟨hx, hb, hret, hml, hown, hlk, hmn, hts, hC⟩ := id K
  exact va_gets hx hb hC.2.2.2.2.1 hS hown (fin_word hts hM) (fun _ h => h) hd (k.2 p l e s m args below meth c H locs ls ad cy dC dI B0 n0 u0 K hz h1 h2 hS hW hl)
theorem ev_getsq {idx : Nat} (hM : Cond.fieldLink M.1 idx "jdk/internal/util/Preconditions" "SIOOBE_FORMATTER" "Ljava/util/function/BiFunction;" ∈ ALLG) (hd : decode M.2.2.1 pc = .ok (.getstatic idx, 3)) (kN : Ev d M (pc + 3) lv (.null :: sk) σ r τ) (k : Ev d M (pc + 3) lv (.ref (STR + 64) :: sk) σ r τ) : Ev d M pc lv sk σ r τ := by
  refine ⟨k.1, ?_⟩
  intro p l e s m args below meth c H locs ls ad cy dC dI B0 n0 u0 K hz h1 h2 hS hW hl
  obtain ⟨hx, hb, hret, hml, hown, hlk, hmn, hts, hC⟩ := id K
  rcases hC.2.2.2.2.2.1 with h9 | h9
  · exact va_gets hx hb h9 hS hown (fin_word hts hM) (fun _ h => h) hd (kN.2 p l e s m args below meth c H locs ls ad cy dC dI B0 n0 u0 K hz h1 h2 hS hW hl)
  · exact va_gets hx hb h9 hS hown (fin_word hts hM) (fun _ h => h) hd (k.2 p l e s m args below meth c H locs ls ad cy dC dI B0 n0 u0 K hz h1 h2 hS hW hl)
theorem ev_slen {i : Nat} (hi : i < 22) (hd : decode M.2.2.1 pc = .ok (.arraylength, 1)) (k : Ev d M (pc + 1) lv (.int (Int32.ofNat (lenS.getD i 0)) :: sk) σ r τ) : Ev d M pc lv (.ref (STR + 32 + i) :: sk) σ r τ := by
  refine ⟨k.1, ?_⟩
  intro p l e s m args below meth c H locs ls ad cy dC dI B0 n0 u0 K hz h1 h2 hS hW hl
  obtain ⟨hx, hb, hret, hml, hown, hlk, hmn, hts, hC⟩ := id K
  exact va_tlen hx hb (hC.2.2.2.1.1 i hi).2.2.2 hS rfl hd (k.2 p l e s m args below meth c H locs ls ad cy dC dI B0 n0 u0 K hz h1 h2 hS hW hl)
theorem ev_sbald {i : Nat} {x : Int32} (hi : i < 22) (hin : chOk i x = true) (hd : decode M.2.2.1 pc = .ok (.baload, 1)) (k : Ev d M (pc + 1) lv (.int ((bytS.getD i []).getD (ix x) 0) :: sk) σ r τ) : Ev d M pc lv (.int x :: .ref (STR + 32 + i) :: sk) σ r τ := by
  refine ⟨k.1, ?_⟩
  intro p l e s m args below meth c H locs ls ad cy dC dI B0 n0 u0 K hz h1 h2 hS hW hl
  obtain ⟨hx, hb, hret, hml, hown, hlk, hmn, hts, hC⟩ := id K
  simp only [chOk, Bool.and_eq_true, decide_eq_true_eq] at hin
  exact va_tb hx hb (hC.2.2.2.1.1 i hi).2.2.2 hS (vp_in_iff.mpr hin) rfl hd (k.2 p l e s m args below meth c H locs ls ad cy dC dI B0 n0 u0 K hz h1 h2 hS hW hl)
theorem ev_callStr {d2 idx : Nat} {Z : MD} {i : Nat} {vs st0 : List Value} {ρ : St} {r1 : Option Value} (hi : i < 22) (hc : Call d2 Z (.ref (STR + i) :: vs) σ r1 ρ) (hd2 : d2 + 1 ≤ d) (hL : Z.2.2.2.1 ≤ 21) (hw1 : Cond.methodLink M.1 idx Z.2.1 ∈ ALLG) (hw2 : Cond.instanceMethod Z.2.1 ∈ ALLG) (hw3 : Cond.selects "java/lang/String" Z.2.1 Z.2.1 ∈ ALLG) (hw4 : Cond.initialized Z.2.1.cls ∈ ALLG) (hw5 : Cond.code Z.2.1 Z.2.2.1 Z.2.2.2.1 Z.2.2.2.2 ∈ ALLG) (hy : okY Z.2.1 vs.length)
    (hst : vs.reverse ++ .ref (STR + i) :: sk = st0) (hcat : (sk.map fun v => v.category).sum ≤ 8) (hd : decode M.2.2.1 pc = .ok (.invokevirtual idx, 3)) (k : Ev d M (pc + 3) lv (r1.toList ++ sk) ρ r τ) : Ev d M pc lv st0 σ r τ := by
  have hm1 : sN σ ≤ sN ρ := hc.1.1
  have hm2 : sU σ ≤ sU ρ := hc.1.2.1
  have hm3 : sN ρ ≤ sN τ := k.1.1
  have hm4 : sU ρ ≤ sU τ := k.1.2.1
  refine ⟨mono_tr hc.1 k.1, ?_⟩
  intro p l e s m args below meth c H locs ls ad cy dC dI B0 n0 u0 K hz h1 h2 hS hW hl
  obtain ⟨hx, hb, hret, hml, hown, hlk, hmn, hts, hC⟩ := id K
  have hCB := callB_of (Ts := WS M) (R := rmOf d (sN τ - n0) (sU τ - u0)) (rm := rmOf d2 (sN ρ - sN σ) (sU ρ - sU σ)) vs.length hts (good_ws hw5) rfl rfl rfl (fin_word hts hw4) (fin_word hts hw1) hy ⟨hd2, by show 8 + (Z.2.2.2.1 + 11) + 40 * d2 ≤ 40 * d; omega⟩
  refine x_call (va_runV (As := vs.map (sh ad)) (rest := sk.map (sh ad)) (g := F0 m pc ls (st0.map (sh ad))) ⟨hx, hb, hml, hown, hts⟩ (hc.2 l ad cy dC dI B0 (by omega)) ⟨hCB, fin_word hts hw2, fin_word hts hw3⟩ ⟨blind, vk_recv hC.2.2.2.1 hi hS, fun U hU hWm => ⟨rfl, hC.go hWm hS hU, by rw [hU]; exact hW⟩⟩ rfl (by rw [List.length_map]) hl.1 (map_stack hst) (lv_room (by rw [map_cat]; exact hcat)) hd ⟨(by show _ ≤ sN τ - n0; omega : (sN σ - n0) + (sN ρ - sN σ) ≤ _), (by show _ ≤ sU τ - u0; omega : (sU σ - u0) + (sU ρ - sU σ) ≤ _)⟩) hS (fun H1 locs1 hW1 hS1 => ?_)
  rw [show sN σ - n0 + (sN ρ - sN σ) = sN ρ - n0 by omega, show sU σ - u0 + (sU ρ - sU σ) = sU ρ - u0 by omega]
  have e9 : (r1.toList ++ sk).map (sh ad) = (r1.map (sh ad)).toList ++ sk.map (sh ad) := by cases r1 <;> rfl
  rw [← e9]
  exact k.2 p l e s m args below meth c H1 locs1 ls ad cy dC dI B0 n0 u0 K hz (by omega) (by omega) hS1 hW1 hl

end
abbrev msL : MD := ("java/lang/String", ⟨"java/lang/String", "length", "()I"⟩, prog_22_method_54_code, 1, (some Jvm.ClassFile.FieldType.int))
theorem ksL : okY msL.2.1 0 := ⟨by decide +kernel, by decide +kernel, by decide +kernel⟩
theorem dsL_0 : decode prog_22_method_54_code 0 = .ok (.aload_n 0, 1) := by decide +kernel
theorem dsL_1 : decode prog_22_method_54_code 1 = .ok (.getfield 9, 3) := by decide +kernel
theorem dsL_4 : decode prog_22_method_54_code 4 = .ok (.arraylength, 1) := by decide +kernel
theorem dsL_5 : decode prog_22_method_54_code 5 = .ok (.aload_n 0, 1) := by decide +kernel
theorem dsL_6 : decode prog_22_method_54_code 6 = .ok (.invokevirtual 335, 3) := by decide +kernel
theorem dsL_9 : decode prog_22_method_54_code 9 = .ok (.ishr, 1) := by decide +kernel
theorem dsL_10 : decode prog_22_method_54_code 10 = .ok (.ireturn, 1) := by decide +kernel
abbrev msA : MD := ("java/lang/String", ⟨"java/lang/String", "charAt", "(I)C"⟩, prog_22_method_56_code, 2, (some Jvm.ClassFile.FieldType.char))
theorem ksA : okY msA.2.1 1 := ⟨by decide +kernel, by decide +kernel, by decide +kernel⟩
theorem dsA_0 : decode prog_22_method_56_code 0 = .ok (.aload_n 0, 1) := by decide +kernel
theorem dsA_1 : decode prog_22_method_56_code 1 = .ok (.invokevirtual 492, 3) := by decide +kernel
theorem dsA_4 : decode prog_22_method_56_code 4 = .ok (.ifCond .eq 12, 3) := by decide +kernel
theorem dsA_7 : decode prog_22_method_56_code 7 = .ok (.aload_n 0, 1) := by decide +kernel
theorem dsA_8 : decode prog_22_method_56_code 8 = .ok (.getfield 9, 3) := by decide +kernel
theorem dsA_11 : decode prog_22_method_56_code 11 = .ok (.iload_n 1, 1) := by decide +kernel
theorem dsA_12 : decode prog_22_method_56_code 12 = .ok (.invokestatic 495, 3) := by decide +kernel
theorem dsA_15 : decode prog_22_method_56_code 15 = .ok (.ireturn, 1) := by decide +kernel
theorem dsA_16 : decode prog_22_method_56_code 16 = .ok (.aload_n 0, 1) := by decide +kernel
theorem dsA_17 : decode prog_22_method_56_code 17 = .ok (.getfield 9, 3) := by decide +kernel
theorem dsA_20 : decode prog_22_method_56_code 20 = .ok (.iload_n 1, 1) := by decide +kernel
theorem dsA_21 : decode prog_22_method_56_code 21 = .ok (.invokestatic 498, 3) := by decide +kernel
theorem dsA_24 : decode prog_22_method_56_code 24 = .ok (.ireturn, 1) := by decide +kernel
abbrev msC : MD := ("java/lang/String", ⟨"java/lang/String", "coder", "()B"⟩, prog_22_method_152_code, 1, (some Jvm.ClassFile.FieldType.byte))
theorem ksC : okY msC.2.1 0 := ⟨by decide +kernel, by decide +kernel, by decide +kernel⟩
theorem dsC_0 : decode prog_22_method_152_code 0 = .ok (.getstatic 38, 3) := by decide +kernel
theorem dsC_3 : decode prog_22_method_152_code 3 = .ok (.ifCond .eq 10, 3) := by decide +kernel
theorem dsC_6 : decode prog_22_method_152_code 6 = .ok (.aload_n 0, 1) := by decide +kernel
theorem dsC_7 : decode prog_22_method_152_code 7 = .ok (.getfield 15, 3) := by decide +kernel
theorem dsC_10 : decode prog_22_method_152_code 10 = .ok (.goto 4, 3) := by decide +kernel
theorem dsC_13 : decode prog_22_method_152_code 13 = .ok (.iconst 1, 1) := by decide +kernel
theorem dsC_14 : decode prog_22_method_152_code 14 = .ok (.ireturn, 1) := by decide +kernel
abbrev msI : MD := ("java/lang/String", ⟨"java/lang/String", "isLatin1", "()Z"⟩, prog_22_method_154_code, 1, (some Jvm.ClassFile.FieldType.boolean))
theorem ksI : okY msI.2.1 0 := ⟨by decide +kernel, by decide +kernel, by decide +kernel⟩
theorem dsI_0 : decode prog_22_method_154_code 0 = .ok (.getstatic 38, 3) := by decide +kernel
theorem dsI_3 : decode prog_22_method_154_code 3 = .ok (.ifCond .eq 14, 3) := by decide +kernel
theorem dsI_6 : decode prog_22_method_154_code 6 = .ok (.aload_n 0, 1) := by decide +kernel
theorem dsI_7 : decode prog_22_method_154_code 7 = .ok (.getfield 15, 3) := by decide +kernel
theorem dsI_10 : decode prog_22_method_154_code 10 = .ok (.ifCond .ne 7, 3) := by decide +kernel
theorem dsI_13 : decode prog_22_method_154_code 13 = .ok (.iconst 1, 1) := by decide +kernel
theorem dsI_14 : decode prog_22_method_154_code 14 = .ok (.goto 4, 3) := by decide +kernel
theorem dsI_17 : decode prog_22_method_154_code 17 = .ok (.iconst 0, 1) := by decide +kernel
theorem dsI_18 : decode prog_22_method_154_code 18 = .ok (.ireturn, 1) := by decide +kernel
abbrev msX : MD := ("java/lang/String", ⟨"java/lang/String", "checkIndex", "(II)V"⟩, prog_22_method_155_code, 2, (none : Option Jvm.ClassFile.FieldType))
theorem ksX : okY msX.2.1 2 := ⟨by decide +kernel, by decide +kernel, by decide +kernel⟩
theorem dsX_0 : decode prog_22_method_155_code 0 = .ok (.iload_n 0, 1) := by decide +kernel
theorem dsX_1 : decode prog_22_method_155_code 1 = .ok (.iload_n 1, 1) := by decide +kernel
theorem dsX_2 : decode prog_22_method_155_code 2 = .ok (.getstatic 1053, 3) := by decide +kernel
theorem dsX_5 : decode prog_22_method_155_code 5 = .ok (.invokestatic 1059, 3) := by decide +kernel
theorem dsX_8 : decode prog_22_method_155_code 8 = .ok (.pop, 1) := by decide +kernel
theorem dsX_9 : decode prog_22_method_155_code 9 = .ok (.return_, 1) := by decide +kernel
abbrev msB : MD := ("java/lang/StringLatin1", ⟨"java/lang/StringLatin1", "charAt", "([BI)C"⟩, prog_23_method_2_code, 2, (some Jvm.ClassFile.FieldType.char))
theorem ksB : okY msB.2.1 2 := ⟨by decide +kernel, by decide +kernel, by decide +kernel⟩
theorem dsB_0 : decode prog_23_method_2_code 0 = .ok (.iload_n 1, 1) := by decide +kernel
theorem dsB_1 : decode prog_23_method_2_code 1 = .ok (.aload_n 0, 1) := by decide +kernel
theorem dsB_2 : decode prog_23_method_2_code 2 = .ok (.arraylength, 1) := by decide +kernel
theorem dsB_3 : decode prog_23_method_2_code 3 = .ok (.invokestatic 9, 3) := by decide +kernel
theorem dsB_6 : decode prog_23_method_2_code 6 = .ok (.aload_n 0, 1) := by decide +kernel
theorem dsB_7 : decode prog_23_method_2_code 7 = .ok (.iload_n 1, 1) := by decide +kernel
theorem dsB_8 : decode prog_23_method_2_code 8 = .ok (.baload, 1) := by decide +kernel
theorem dsB_9 : decode prog_23_method_2_code 9 = .ok (.sipush 255, 3) := by decide +kernel
theorem dsB_12 : decode prog_23_method_2_code 12 = .ok (.iand, 1) := by decide +kernel
theorem dsB_13 : decode prog_23_method_2_code 13 = .ok (.i2c, 1) := by decide +kernel
theorem dsB_14 : decode prog_23_method_2_code 14 = .ok (.ireturn, 1) := by decide +kernel
abbrev msP : MD := ("jdk/internal/util/Preconditions", ⟨"jdk/internal/util/Preconditions", "checkIndex", "(IILjava/util/function/BiFunction;)I"⟩, prog_31_method_11_code, 3, (some Jvm.ClassFile.FieldType.int))
theorem ksP : okY msP.2.1 3 := ⟨by decide +kernel, by decide +kernel, by decide +kernel⟩
theorem dsP_0 : decode prog_31_method_11_code 0 = .ok (.iload_n 0, 1) := by decide +kernel
theorem dsP_1 : decode prog_31_method_11_code 1 = .ok (.ifCond .lt 8, 3) := by decide +kernel
theorem dsP_4 : decode prog_31_method_11_code 4 = .ok (.iload_n 0, 1) := by decide +kernel
theorem dsP_5 : decode prog_31_method_11_code 5 = .ok (.iload_n 1, 1) := by decide +kernel
theorem dsP_6 : decode prog_31_method_11_code 6 = .ok (.if_icmp .lt 10, 3) := by decide +kernel
theorem dsP_9 : decode prog_31_method_11_code 9 = .ok (.aload_n 2, 1) := by decide +kernel
theorem dsP_10 : decode prog_31_method_11_code 10 = .ok (.iload_n 0, 1) := by decide +kernel
theorem dsP_11 : decode prog_31_method_11_code 11 = .ok (.iload_n 1, 1) := by decide +kernel
theorem dsP_12 : decode prog_31_method_11_code 12 = .ok (.invokestatic 95, 3) := by decide +kernel
theorem dsP_15 : decode prog_31_method_11_code 15 = .ok (.athrow, 1) := by decide +kernel
theorem dsP_16 : decode prog_31_method_11_code 16 = .ok (.iload_n 0, 1) := by decide +kernel
theorem dsP_17 : decode prog_31_method_11_code 17 = .ok (.ireturn, 1) := by decide +kernel
theorem call_sP {i n : Int32} {σ : St} {v : Value} (h0 : 0 ≤ i.toInt) (h1 : i.toInt < n.toInt) (hv : v = .null ∨ v = .ref (STR + 64)) : Call 2 msP [.int i, .int n, v] σ (some (.int i)) σ := by
  have a1 : ¬ i < 0 := fun q => by have := Int32.lt_iff_toInt_lt.mp q; simp at this; omega
  have a2 : i < n := Int32.lt_iff_toInt_lt.mpr h1
  have body : Ev 2 msP 0 [(0, .int i), (1, .int n), (2, v)] [] σ (some (.int i)) σ := by
    refine ev_iload_n (j := 0) (i := 0) (q := 0) rfl rfl dsP_0 ?_
    refine ev_if_lt_f (tgt := 9) a1 (by decide) dsP_1 ?_
    refine ev_iload_n (j := 0) (i := 0) (q := 0) rfl rfl dsP_4 ?_
    refine ev_iload_n (j := 1) (i := 1) (q := 1) rfl rfl dsP_5 ?_
    refine ev_icmp_lt_t (tgt := 16) a2 (by decide) dsP_6 ?_
    refine ev_iload_n (j := 0) (i := 0) (q := 0) rfl rfl dsP_16 ?_
    exact ev_iret rfl dsP_17
  rcases hv with rfl | rfl <;> exact Call.of (by decide +kernel) rfl (Nat.le_of_ble_eq_true rfl) body
theorem call_sX {i n : Int32} {σ : St} (h0 : 0 ≤ i.toInt) (h1 : i.toInt < n.toInt) : Call 3 msX [.int i, .int n] σ none σ := by
  refine Call.of (by decide +kernel) rfl (Nat.le_of_ble_eq_true rfl) ?_
  refine ev_iload_n (j := 0) (i := 0) (q := 0) rfl rfl dsX_0 ?_
  refine ev_iload_n (j := 1) (i := 1) (q := 1) rfl rfl dsX_1 ?_
  refine ev_getsq w242 dsX_2 ?_ ?_
  · refine ev_callS (vs := [.int i, .int n, .null]) (sk := []) (call_sP h0 h1 (Or.inl rfl)) (by decide) (Nat.le_of_ble_eq_true rfl) w244 w245 w13 w246 ksP rfl (Nat.le_of_ble_eq_true rfl) dsX_5 ?_
    refine ev_pop rfl dsX_8 ?_
    exact ev_vret rfl dsX_9
  · refine ev_callS (vs := [.int i, .int n, .ref (STR + 64)]) (sk := []) (call_sP h0 h1 (Or.inr rfl)) (by decide) (Nat.le_of_ble_eq_true rfl) w244 w245 w13 w246 ksP rfl (Nat.le_of_ble_eq_true rfl) dsX_5 ?_
    refine ev_pop rfl dsX_8 ?_
    exact ev_vret rfl dsX_9
theorem len_s : ∀ i, i < 22 → lenS.getD i 0 < 100 := by decide +kernel
theorem len_si {i : Nat} (hi : i < 22) : (Int32.ofNat (lenS.getD i 0)).toInt = (lenS.getD i 0 : Int) := by
  have := len_s i hi
  exact nI_toInt (n := lenS.getD i 0) (by omega)
theorem call_sB {i : Nat} {x : Int32} {σ : St} (hi : i < 22) (hx : chOk i x = true) : Call 4 msB [.ref (STR + 32 + i), .int x] σ (some (.int (strCh i (ix x)))) σ := by
  have h2 : 0 ≤ x.toInt ∧ x.toInt < (Int32.ofNat (lenS.getD i 0)).toInt := by
    rw [len_si hi]
    simp only [chOk, Bool.and_eq_true, decide_eq_true_eq] at hx
    exact hx
  refine Call.of (by decide +kernel) rfl (Nat.le_of_ble_eq_true rfl) ?_
  refine ev_iload_n (j := 1) (i := 1) (q := 1) rfl rfl dsB_0 ?_
  refine ev_aload_n (j := 0) (i := 0) (q := 0) rfl rfl dsB_1 ?_
  refine ev_slen hi dsB_2 ?_
  refine ev_callS (vs := [.int x, .int (Int32.ofNat (lenS.getD i 0))]) (sk := []) (call_sX h2.1 h2.2) (by decide) (Nat.le_of_ble_eq_true rfl) w239 w240 w11 w241 ksX rfl (Nat.le_of_ble_eq_true rfl) dsB_3 ?_
  refine ev_aload_n (j := 0) (i := 0) (q := 0) rfl rfl dsB_6 ?_
  refine ev_iload_n (j := 1) (i := 1) (q := 1) rfl rfl dsB_7 ?_
  refine ev_sbald hi hx dsB_8 ?_
  refine ev_sipush (v := 255) (by decide) dsB_9 ?_
  refine ev_iand dsB_12 ?_
  refine ev_i2c dsB_13 ?_
  rw [sc_c2]
  exact ev_zret rfl (sc_nar _) dsB_14
theorem call_sC {i : Nat} {σ : St} (hi : i < 22) : Call 2 msC [.ref (STR + i)] σ (some (.int 0)) σ := by
  refine Call.of (by decide +kernel) rfl (Nat.le_of_ble_eq_true rfl) ?_
  refine ev_gets w226 dsC_0 ?_
  refine ev_if_eq_f (tgt := 13) (by decide) (by decide) dsC_3 ?_
  refine ev_aload_n (j := 0) (i := 0) (q := 0) rfl rfl dsC_6 ?_
  refine ev_sgetC hi w1953 dsC_7 ?_
  refine ev_goto (tgt := 14) (by decide) dsC_10 ?_
  exact ev_zret rfl (by decide) dsC_14
theorem call_sI {i : Nat} {σ : St} (hi : i < 22) : Call 2 msI [.ref (STR + i)] σ (some (.int 1)) σ := by
  refine Call.of (by decide +kernel) rfl (Nat.le_of_ble_eq_true rfl) ?_
  refine ev_gets w226 dsI_0 ?_
  refine ev_if_eq_f (tgt := 17) (by decide) (by decide) dsI_3 ?_
  refine ev_aload_n (j := 0) (i := 0) (q := 0) rfl rfl dsI_6 ?_
  refine ev_sgetC hi w1953 dsI_7 ?_
  refine ev_if_ne_f (tgt := 17) (by decide) (by decide) dsI_10 ?_
  refine ev_iconst (v := 1) (by decide) dsI_13 ?_
  refine ev_goto (tgt := 18) (by decide) dsI_14 ?_
  exact ev_zret rfl (by decide) dsI_18
theorem call_sL {i : Nat} {σ : St} (hi : i < 22) : Call 3 msL [.ref (STR + i)] σ (some (.int (Int32.ofNat (lenS.getD i 0)))) σ := by
  refine Call.of (by decide +kernel) rfl (Nat.le_of_ble_eq_true rfl) ?_
  refine ev_aload_n (j := 0) (i := 0) (q := 0) rfl rfl dsL_0 ?_
  refine ev_sgetV hi w1952 dsL_1 ?_
  refine ev_slen hi dsL_4 ?_
  refine ev_aload_n (j := 0) (i := 0) (q := 0) rfl rfl dsL_5 ?_
  refine ev_callStr (vs := []) (sk := [.int (Int32.ofNat (lenS.getD i 0))]) hi (call_sC hi) (by decide) (Nat.le_of_ble_eq_true rfl) w222 w223 w224 w11 w225 ksC rfl (Nat.le_of_ble_eq_true rfl) dsL_6 ?_
  refine ev_ishr dsL_9 ?_
  rw [sb_shr0]
  exact ev_iret rfl dsL_10
theorem call_sA {i : Nat} {x : Int32} {σ : St} (hi : i < 22) (hx : chOk i x = true) : Call 5 msA [.ref (STR + i), .int x] σ (some (.int (strCh i (ix x)))) σ := by
  refine Call.of (by decide +kernel) rfl (Nat.le_of_ble_eq_true rfl) ?_
  refine ev_aload_n (j := 0) (i := 0) (q := 0) rfl rfl dsA_0 ?_
  refine ev_callStr (vs := []) (sk := []) hi (call_sI hi) (by decide) (Nat.le_of_ble_eq_true rfl) w232 w233 w234 w11 w235 ksI rfl (Nat.le_of_ble_eq_true rfl) dsA_1 ?_
  refine ev_if_eq_f (tgt := 16) (by decide) (by decide) dsA_4 ?_
  refine ev_aload_n (j := 0) (i := 0) (q := 0) rfl rfl dsA_7 ?_
  refine ev_sgetV hi w1952 dsA_8 ?_
  refine ev_iload_n (j := 1) (i := 1) (q := 1) rfl rfl dsA_11 ?_
  refine ev_callS (vs := [.ref (STR + 32 + i), .int x]) (sk := []) (call_sB hi hx) (by decide) (Nat.le_of_ble_eq_true rfl) w236 w237 w12 w238 ksB rfl (Nat.le_of_ble_eq_true rfl) dsA_12 ?_
  exact ev_zret rfl (sc_nar _) dsA_15
section
variable {d : Nat} {M : MD} {pc : Nat} {lv : List (Nat × Value)} {sk : List Value} {σ τ : St} {r : Option Value}
theorem ev_strlen {i idx : Nat} (hi : i < 22) (hw : Cond.methodLink M.1 idx msL.2.1 ∈ ALLG) (hd1 : 6 ≤ d) (hcat : (sk.map fun v => v.category).sum ≤ 8) (hd : decode M.2.2.1 pc = .ok (.invokevirtual idx, 3)) (k : Ev d M (pc + 3) lv (.int (Int32.ofNat (lenS.getD i 0)) :: sk) σ r τ) : Ev d M pc lv (.ref (STR + i) :: sk) σ r τ :=
  ev_callStr (vs := []) (sk := sk) hi (call_sL hi) (by omega) (Nat.le_of_ble_eq_true rfl) hw w219 w220 w11 w221 ksL rfl hcat hd k
theorem ev_strchar {i idx : Nat} {x : Int32} (hi : i < 22) (hx : chOk i x = true) (hw : Cond.methodLink M.1 idx msA.2.1 ∈ ALLG) (hd1 : 6 ≤ d) (hcat : (sk.map fun v => v.category).sum ≤ 8) (hd : decode M.2.2.1 pc = .ok (.invokevirtual idx, 3)) (k : Ev d M (pc + 3) lv (.int (strCh i (ix x)) :: sk) σ r τ) : Ev d M pc lv (.int x :: .ref (STR + i) :: sk) σ r τ :=
  ev_callStr (vs := [.int x]) (sk := sk) hi (call_sA hi hx) (by omega) (Nat.le_of_ble_eq_true rfl) hw w229 w230 w11 w231 ksA rfl hcat hd k
end
