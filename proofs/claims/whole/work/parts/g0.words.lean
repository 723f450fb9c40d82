/-! WHAT THE START GIVES -/
theorem tbl_w {b : Nat} {s : State} (hts : ∀ w ∈ lw_tbl, w.before #[Value.ref b] s = true) {w : Cond} (h : w ∈ tables_1) : w.before #[Value.ref b] s = true := hts w (List.mem_append_right _ h)
theorem kn_all {b : Nat} {s : State} (hts : ∀ w ∈ lw_tbl, w.before #[Value.ref b] s = true) : ∀ k : Nat, ∃ q : ClassId × (Nat → Nat), ∀ x : vw_C, vwCl[k]? = some x → u_Kn s x.1 x.2.1 x.2.2 q.1 q.2 := by
  have hal : ∀ w ∈ ALLG, w.before #[Value.ref b] s = true := fun w hw => hts w (List.mem_filter.mp hw).1
  intro k
  by_cases hk : k < 13
  · have cs : k = 0 ∨ k = 1 ∨ k = 2 ∨ k = 3 ∨ k = 4 ∨ k = 5 ∨ k = 6 ∨ k = 7 ∨ k = 8 ∨ k = 9 ∨ k = 10 ∨ k = 11 ∨ k = 12 := by omega
    rcases cs with rfl | rfl | rfl | rfl | rfl | rfl | rfl | rfl | rfl | rfl | rfl | rfl | rfl
    · obtain ⟨cC, iS, h⟩ := u_known (C := RX0) (T := TX0) (N := 7) (n := 7) hal cls0.2.2.2.1 (tbl_w hts (tm1 (List.mem_of_getElem? (i := 60) rfl)))
      exact ⟨(cC, iS), fun x hx => by cases hx; exact h⟩
    · obtain ⟨cC, iS, h⟩ := u_known (C := RX1) (T := TX1) (N := 4) (n := 4) hal cls1.2.2.2.1 (tbl_w hts (tm1 (List.mem_of_getElem? (i := 146) rfl)))
      exact ⟨(cC, iS), fun x hx => by cases hx; exact h⟩
    · obtain ⟨cC, iS, h⟩ := u_known (C := RX2) (T := TX2) (N := 6) (n := 6) hal cls2.2.2.2.1 (tbl_w hts (tm2 (List.mem_of_getElem? (i := 105) rfl)))
      exact ⟨(cC, iS), fun x hx => by cases hx; exact h⟩
    · obtain ⟨cC, iS, h⟩ := u_known (C := RX3) (T := TX3) (N := 10) (n := 10) hal cls3.2.2.2.1 (tbl_w hts (tm2 (List.mem_of_getElem? (i := 131) rfl)))
      exact ⟨(cC, iS), fun x hx => by cases hx; exact h⟩
    · obtain ⟨cC, iS, h⟩ := u_known (C := RX4) (T := TX4) (N := 8) (n := 8) hal cls4.2.2.2.1 (tbl_w hts (tm1 (List.mem_of_getElem? (i := 140) rfl)))
      exact ⟨(cC, iS), fun x hx => by cases hx; exact h⟩
    · obtain ⟨cC, iS, h⟩ := u_known (C := RX5) (T := TX5) (N := 10) (n := 10) hal cls5.2.2.2.1 (tbl_w hts (tm2 (List.mem_of_getElem? (i := 229) rfl)))
      exact ⟨(cC, iS), fun x hx => by cases hx; exact h⟩
    · obtain ⟨cC, iS, h⟩ := u_known (C := RX6) (T := TX6) (N := 16) (n := 16) hal cls6.2.2.2.1 (tbl_w hts (tm2 (List.mem_of_getElem? (i := 170) rfl)))
      exact ⟨(cC, iS), fun x hx => by cases hx; exact h⟩
    · obtain ⟨cC, iS, h⟩ := u_known (C := RX7) (T := TX7) (N := 13) (n := 13) hal cls7.2.2.2.1 (tbl_w hts (tm1 (List.mem_of_getElem? (i := 172) rfl)))
      exact ⟨(cC, iS), fun x hx => by cases hx; exact h⟩
    · obtain ⟨cC, iS, h⟩ := u_known (C := RX8) (T := TX8) (N := 6) (n := 6) hal cls8.2.2.2.1 (tbl_w hts (tm1 (List.mem_of_getElem? (i := 35) rfl)))
      exact ⟨(cC, iS), fun x hx => by cases hx; exact h⟩
    · obtain ⟨cC, iS, h⟩ := u_known (C := RX9) (T := TX9) (N := 3) (n := 3) hal cls9.2.2.2.1 (tbl_w hts (tm1 (List.mem_of_getElem? (i := 44) rfl)))
      exact ⟨(cC, iS), fun x hx => by cases hx; exact h⟩
    · obtain ⟨cC, iS, h⟩ := u_known (C := RX10) (T := TX10) (N := 7) (n := 7) hal cls10.2.2.2.1 (tbl_w hts (tm1 (List.mem_of_getElem? (i := 178) rfl)))
      exact ⟨(cC, iS), fun x hx => by cases hx; exact h⟩
    · obtain ⟨cC, iS, h⟩ := u_known (C := RX11) (T := TX11) (N := 9) (n := 9) hal cls11.2.2.2.1 (tbl_w hts (tm1 (List.mem_of_getElem? (i := 27) rfl)))
      exact ⟨(cC, iS), fun x hx => by cases hx; exact h⟩
    · obtain ⟨cC, iS, h⟩ := u_known (C := RX12) (T := TX12) (N := 79) (n := 79) hal cls12.2.2.2.1 (tbl_w hts (tm6 (List.mem_of_getElem? (i := 46) rfl)))
      exact ⟨(cC, iS), fun x hx => by cases hx; exact h⟩
  · exact ⟨(0, fun _ => 0), fun x hx => absurd (List.getElem?_eq_some_iff.mp hx).1 (by show ¬ k < 13; omega)⟩
theorem ar_prim {args : Array Value} {s : State} {t : FieldType} (hn : ∀ C, t ≠ .object C) (h : (Cond.arrayClass t).before args s = true) : ∃ cA, ArrOfT s cA t ∧ va_RA s cA t := by
  obtain ⟨cA, k, comp, h1, h2, h3⟩ := Cond.arrayClass_spec h
  refine ⟨cA, fun n z => ⟨fun k h => (by cases h), k, h2, comp, h3⟩, ?_⟩
  cases t with
  | object C => exact absurd rfl (hn C)
  | _ => exact h1
theorem ar_obj {args : Array Value} {s : State} {C : String} (h : (Cond.arrayOver (.object C)).before args s = true) : ∃ cA, ArrOfT s cA (.object C) ∧ va_RA s cA (.object C) := by
  obtain ⟨comp, cA, k, h1, -, h2, h3, h4⟩ := Cond.arrayOver_spec h
  exact ⟨cA, fun n z => ⟨fun k h => (by cases h), k, h2, comp, h3⟩, k, comp, h2, h3, h1, h4⟩
theorem ar_arr {args : Array Value} {s : State} {t : FieldType} (h : (Cond.arrayOver (.array t)).before args s = true) : ∃ cA, ArrOfT s cA (.array t) ∧ va_RA s cA (.array t) := by
  obtain ⟨comp, cA, k, h1, h2, h3, h4⟩ := Cond.arrayOver_specA h
  exact ⟨cA, fun n z => ⟨fun k h => (by cases h), k, h2, comp, h3⟩, h4⟩
theorem ar_all {b : Nat} {s : State} (hts : ∀ w ∈ lw_tbl, w.before #[Value.ref b] s = true) : ∃ cy : Nat → ClassId, ∀ (k : Nat) (q : ClassId × FieldType), (tysOf cy)[k]? = some q → ArrOfT s q.1 q.2 ∧ va_RA s q.1 q.2 := by
  obtain ⟨c13, a13⟩ := ar_prim (fun _ h => by cases h) (tbl_w hts (tm2 (List.mem_of_getElem? (i := 73) rfl)))
  obtain ⟨c14, a14⟩ := ar_prim (fun _ h => by cases h) (tbl_w hts (tm1 (List.mem_of_getElem? (i := 59) rfl)))
  obtain ⟨c15, a15⟩ := ar_prim (fun _ h => by cases h) (tbl_w hts (tm1 (List.mem_of_getElem? (i := 213) rfl)))
  obtain ⟨c16, a16⟩ := ar_prim (fun _ h => by cases h) (tbl_w hts (tm7 (List.mem_of_getElem? (i := 49) rfl)))
  obtain ⟨c17, a17⟩ := ar_obj (tbl_w hts (tm1 (List.mem_of_getElem? (i := 43) rfl)))
  obtain ⟨c18, a18⟩ := ar_obj (tbl_w hts (tm1 (List.mem_of_getElem? (i := 168) rfl)))
  obtain ⟨c19, a19⟩ := ar_obj (tbl_w hts (tm1 (List.mem_of_getElem? (i := 41) rfl)))
  obtain ⟨c20, a20⟩ := ar_obj (tbl_w hts (tm1 (List.mem_of_getElem? (i := 170) rfl)))
  obtain ⟨c21, a21⟩ := ar_arr (tbl_w hts (tm2 (List.mem_of_getElem? (i := 176) rfl)))
  refine ⟨fun k => if k = 13 then c13 else if k = 14 then c14 else if k = 15 then c15 else if k = 16 then c16 else if k = 17 then c17 else if k = 18 then c18 else if k = 19 then c19 else if k = 20 then c20 else if k = 21 then c21 else 0, fun k q hq => ?_⟩
  have hk : k < 9 := (List.getElem?_eq_some_iff.mp hq).1
  have cs : k = 0 ∨ k = 1 ∨ k = 2 ∨ k = 3 ∨ k = 4 ∨ k = 5 ∨ k = 6 ∨ k = 7 ∨ k = 8 := by omega
  rcases cs with rfl | rfl | rfl | rfl | rfl | rfl | rfl | rfl | rfl
  · cases hq; exact a13
  · cases hq; exact a14
  · cases hq; exact a15
  · cases hq; exact a16
  · cases hq; exact a17
  · cases hq; exact a18
  · cases hq; exact a19
  · cases hq; exact a20
  · cases hq; exact a21
/-! the texts -/
def tmS (i : Nat) : Term := Term.string (strL.getD i ("", 0, "", 0)).1 (strL.getD i ("", 0, "", 0)).2.1
def GIV : List Cond := flatC (Jvm.Cond.and given_1 narrow_1)
def bsG : List Nat := [84, 131, 191, 233, 243, 257, 271, 285, 299, 313, 328, 344, 362, 381, 402, 427, 452, 477, 501, 527, 557, 586]
theorem gim {k : Nat} {w : Cond} (h : GIV[k]? = some w) : w ∈ GIV := List.mem_of_getElem? h
theorem gj_1 : ∀ i, i < 22 → GIV[bsG.getD i 0]? = some (Cond.exactly (tmS i) "java/lang/String") := by decide +kernel
theorem gj_2 : ∀ i, i < 22 → GIV[bsG.getD i 0 + 1]? = some (Cond.eq (.field (tmS i) "java/lang/String" "coder" "B") (.int 0)) := by decide +kernel
theorem gj_3 : ∀ i, i < 22 → GIV[bsG.getD i 0 + 2]? = some (Cond.arrayOf (.field (tmS i) "java/lang/String" "value" "[B") .byte) := by decide +kernel
theorem gj_4 : ∀ i, i < 22 → GIV[bsG.getD i 0 + 3]? = some (Cond.eq (.length (.field (tmS i) "java/lang/String" "value" "[B")) (.int (Int32.ofNat (lenS.getD i 0)))) := by decide +kernel
theorem gj_5_0 : ∀ j, j < 43 → GIV[84 + 4 + j]? = some (Cond.eq (.elem (.field (tmS 0) "java/lang/String" "value" "[B") (.int (Int32.ofNat j))) (.int ((bytS.getD 0 []).getD j 0))) := by decide +kernel
theorem gj_5_1 : ∀ j, j < 55 → GIV[131 + 4 + j]? = some (Cond.eq (.elem (.field (tmS 1) "java/lang/String" "value" "[B") (.int (Int32.ofNat j))) (.int ((bytS.getD 1 []).getD j 0))) := by decide +kernel
theorem gj_6_1 : ∀ j, j < 1 → GIV[190 + j]? = some (Cond.not (Cond.eq (tmS j) (tmS 1))) := by decide +kernel
theorem gj_5_2 : ∀ j, j < 36 → GIV[191 + 4 + j]? = some (Cond.eq (.elem (.field (tmS 2) "java/lang/String" "value" "[B") (.int (Int32.ofNat j))) (.int ((bytS.getD 2 []).getD j 0))) := by decide +kernel
theorem gj_6_2 : ∀ j, j < 2 → GIV[231 + j]? = some (Cond.not (Cond.eq (tmS j) (tmS 2))) := by decide +kernel
theorem gj_5_3 : ∀ j, j < 3 → GIV[233 + 4 + j]? = some (Cond.eq (.elem (.field (tmS 3) "java/lang/String" "value" "[B") (.int (Int32.ofNat j))) (.int ((bytS.getD 3 []).getD j 0))) := by decide +kernel
theorem gj_6_3 : ∀ j, j < 3 → GIV[240 + j]? = some (Cond.not (Cond.eq (tmS j) (tmS 3))) := by decide +kernel
theorem gj_5_4 : ∀ j, j < 6 → GIV[243 + 4 + j]? = some (Cond.eq (.elem (.field (tmS 4) "java/lang/String" "value" "[B") (.int (Int32.ofNat j))) (.int ((bytS.getD 4 []).getD j 0))) := by decide +kernel
theorem gj_6_4 : ∀ j, j < 4 → GIV[253 + j]? = some (Cond.not (Cond.eq (tmS j) (tmS 4))) := by decide +kernel
theorem gj_5_5 : ∀ j, j < 5 → GIV[257 + 4 + j]? = some (Cond.eq (.elem (.field (tmS 5) "java/lang/String" "value" "[B") (.int (Int32.ofNat j))) (.int ((bytS.getD 5 []).getD j 0))) := by decide +kernel
theorem gj_6_5 : ∀ j, j < 5 → GIV[266 + j]? = some (Cond.not (Cond.eq (tmS j) (tmS 5))) := by decide +kernel
theorem gj_5_6 : ∀ j, j < 4 → GIV[271 + 4 + j]? = some (Cond.eq (.elem (.field (tmS 6) "java/lang/String" "value" "[B") (.int (Int32.ofNat j))) (.int ((bytS.getD 6 []).getD j 0))) := by decide +kernel
theorem gj_6_6 : ∀ j, j < 6 → GIV[279 + j]? = some (Cond.not (Cond.eq (tmS j) (tmS 6))) := by decide +kernel
theorem gj_5_7 : ∀ j, j < 3 → GIV[285 + 4 + j]? = some (Cond.eq (.elem (.field (tmS 7) "java/lang/String" "value" "[B") (.int (Int32.ofNat j))) (.int ((bytS.getD 7 []).getD j 0))) := by decide +kernel
theorem gj_6_7 : ∀ j, j < 7 → GIV[292 + j]? = some (Cond.not (Cond.eq (tmS j) (tmS 7))) := by decide +kernel
theorem gj_5_8 : ∀ j, j < 2 → GIV[299 + 4 + j]? = some (Cond.eq (.elem (.field (tmS 8) "java/lang/String" "value" "[B") (.int (Int32.ofNat j))) (.int ((bytS.getD 8 []).getD j 0))) := by decide +kernel
theorem gj_6_8 : ∀ j, j < 8 → GIV[305 + j]? = some (Cond.not (Cond.eq (tmS j) (tmS 8))) := by decide +kernel
theorem gj_5_9 : ∀ j, j < 2 → GIV[313 + 4 + j]? = some (Cond.eq (.elem (.field (tmS 9) "java/lang/String" "value" "[B") (.int (Int32.ofNat j))) (.int ((bytS.getD 9 []).getD j 0))) := by decide +kernel
theorem gj_6_9 : ∀ j, j < 9 → GIV[319 + j]? = some (Cond.not (Cond.eq (tmS j) (tmS 9))) := by decide +kernel
theorem gj_5_10 : ∀ j, j < 2 → GIV[328 + 4 + j]? = some (Cond.eq (.elem (.field (tmS 10) "java/lang/String" "value" "[B") (.int (Int32.ofNat j))) (.int ((bytS.getD 10 []).getD j 0))) := by decide +kernel
theorem gj_6_10 : ∀ j, j < 10 → GIV[334 + j]? = some (Cond.not (Cond.eq (tmS j) (tmS 10))) := by decide +kernel
theorem gj_5_11 : ∀ j, j < 3 → GIV[344 + 4 + j]? = some (Cond.eq (.elem (.field (tmS 11) "java/lang/String" "value" "[B") (.int (Int32.ofNat j))) (.int ((bytS.getD 11 []).getD j 0))) := by decide +kernel
theorem gj_6_11 : ∀ j, j < 11 → GIV[351 + j]? = some (Cond.not (Cond.eq (tmS j) (tmS 11))) := by decide +kernel
theorem gj_5_12 : ∀ j, j < 3 → GIV[362 + 4 + j]? = some (Cond.eq (.elem (.field (tmS 12) "java/lang/String" "value" "[B") (.int (Int32.ofNat j))) (.int ((bytS.getD 12 []).getD j 0))) := by decide +kernel
theorem gj_6_12 : ∀ j, j < 12 → GIV[369 + j]? = some (Cond.not (Cond.eq (tmS j) (tmS 12))) := by decide +kernel
theorem gj_5_13 : ∀ j, j < 4 → GIV[381 + 4 + j]? = some (Cond.eq (.elem (.field (tmS 13) "java/lang/String" "value" "[B") (.int (Int32.ofNat j))) (.int ((bytS.getD 13 []).getD j 0))) := by decide +kernel
theorem gj_6_13 : ∀ j, j < 13 → GIV[389 + j]? = some (Cond.not (Cond.eq (tmS j) (tmS 13))) := by decide +kernel
theorem gj_5_14 : ∀ j, j < 7 → GIV[402 + 4 + j]? = some (Cond.eq (.elem (.field (tmS 14) "java/lang/String" "value" "[B") (.int (Int32.ofNat j))) (.int ((bytS.getD 14 []).getD j 0))) := by decide +kernel
theorem gj_6_14 : ∀ j, j < 14 → GIV[413 + j]? = some (Cond.not (Cond.eq (tmS j) (tmS 14))) := by decide +kernel
theorem gj_5_15 : ∀ j, j < 6 → GIV[427 + 4 + j]? = some (Cond.eq (.elem (.field (tmS 15) "java/lang/String" "value" "[B") (.int (Int32.ofNat j))) (.int ((bytS.getD 15 []).getD j 0))) := by decide +kernel
theorem gj_6_15 : ∀ j, j < 15 → GIV[437 + j]? = some (Cond.not (Cond.eq (tmS j) (tmS 15))) := by decide +kernel
theorem gj_5_16 : ∀ j, j < 5 → GIV[452 + 4 + j]? = some (Cond.eq (.elem (.field (tmS 16) "java/lang/String" "value" "[B") (.int (Int32.ofNat j))) (.int ((bytS.getD 16 []).getD j 0))) := by decide +kernel
theorem gj_6_16 : ∀ j, j < 16 → GIV[461 + j]? = some (Cond.not (Cond.eq (tmS j) (tmS 16))) := by decide +kernel
theorem gj_5_17 : ∀ j, j < 3 → GIV[477 + 4 + j]? = some (Cond.eq (.elem (.field (tmS 17) "java/lang/String" "value" "[B") (.int (Int32.ofNat j))) (.int ((bytS.getD 17 []).getD j 0))) := by decide +kernel
theorem gj_6_17 : ∀ j, j < 17 → GIV[484 + j]? = some (Cond.not (Cond.eq (tmS j) (tmS 17))) := by decide +kernel
theorem gj_5_18 : ∀ j, j < 4 → GIV[501 + 4 + j]? = some (Cond.eq (.elem (.field (tmS 18) "java/lang/String" "value" "[B") (.int (Int32.ofNat j))) (.int ((bytS.getD 18 []).getD j 0))) := by decide +kernel
theorem gj_6_18 : ∀ j, j < 18 → GIV[509 + j]? = some (Cond.not (Cond.eq (tmS j) (tmS 18))) := by decide +kernel
theorem gj_5_19 : ∀ j, j < 7 → GIV[527 + 4 + j]? = some (Cond.eq (.elem (.field (tmS 19) "java/lang/String" "value" "[B") (.int (Int32.ofNat j))) (.int ((bytS.getD 19 []).getD j 0))) := by decide +kernel
theorem gj_6_19 : ∀ j, j < 19 → GIV[538 + j]? = some (Cond.not (Cond.eq (tmS j) (tmS 19))) := by decide +kernel
theorem gj_5_20 : ∀ j, j < 5 → GIV[557 + 4 + j]? = some (Cond.eq (.elem (.field (tmS 20) "java/lang/String" "value" "[B") (.int (Int32.ofNat j))) (.int ((bytS.getD 20 []).getD j 0))) := by decide +kernel
theorem gj_6_20 : ∀ j, j < 20 → GIV[566 + j]? = some (Cond.not (Cond.eq (tmS j) (tmS 20))) := by decide +kernel
theorem gj_5_21 : ∀ j, j < 5 → GIV[586 + 4 + j]? = some (Cond.eq (.elem (.field (tmS 21) "java/lang/String" "value" "[B") (.int (Int32.ofNat j))) (.int ((bytS.getD 21 []).getD j 0))) := by decide +kernel
theorem gj_6_21 : ∀ j, j < 21 → GIV[595 + j]? = some (Cond.not (Cond.eq (tmS j) (tmS 21))) := by decide +kernel
theorem gi_1 : ∀ i, i < 22 → Cond.exactly (tmS i) "java/lang/String" ∈ GIV := fun i hi => gim (gj_1 i hi)
theorem gi_2 : ∀ i, i < 22 → Cond.eq (.field (tmS i) "java/lang/String" "coder" "B") (.int 0) ∈ GIV := fun i hi => gim (gj_2 i hi)
theorem gi_3 : ∀ i, i < 22 → Cond.arrayOf (.field (tmS i) "java/lang/String" "value" "[B") .byte ∈ GIV := fun i hi => gim (gj_3 i hi)
theorem gi_4 : ∀ i, i < 22 → Cond.eq (.length (.field (tmS i) "java/lang/String" "value" "[B")) (.int (Int32.ofNat (lenS.getD i 0))) ∈ GIV := fun i hi => gim (gj_4 i hi)
theorem gi_5 : ∀ i, i < 22 → ∀ j, j < lenS.getD i 0 → Cond.eq (.elem (.field (tmS i) "java/lang/String" "value" "[B") (.int (Int32.ofNat j))) (.int ((bytS.getD i []).getD j 0)) ∈ GIV := by
  intro i hi
  have cs : i = 0 ∨ i = 1 ∨ i = 2 ∨ i = 3 ∨ i = 4 ∨ i = 5 ∨ i = 6 ∨ i = 7 ∨ i = 8 ∨ i = 9 ∨ i = 10 ∨ i = 11 ∨ i = 12 ∨ i = 13 ∨ i = 14 ∨ i = 15 ∨ i = 16 ∨ i = 17 ∨ i = 18 ∨ i = 19 ∨ i = 20 ∨ i = 21 := by omega
  rcases cs with rfl | rfl | rfl | rfl | rfl | rfl | rfl | rfl | rfl | rfl | rfl | rfl | rfl | rfl | rfl | rfl | rfl | rfl | rfl | rfl | rfl | rfl
  · exact fun j hj => gim (gj_5_0 j hj)
  · exact fun j hj => gim (gj_5_1 j hj)
  · exact fun j hj => gim (gj_5_2 j hj)
  · exact fun j hj => gim (gj_5_3 j hj)
  · exact fun j hj => gim (gj_5_4 j hj)
  · exact fun j hj => gim (gj_5_5 j hj)
  · exact fun j hj => gim (gj_5_6 j hj)
  · exact fun j hj => gim (gj_5_7 j hj)
  · exact fun j hj => gim (gj_5_8 j hj)
  · exact fun j hj => gim (gj_5_9 j hj)
  · exact fun j hj => gim (gj_5_10 j hj)
  · exact fun j hj => gim (gj_5_11 j hj)
  · exact fun j hj => gim (gj_5_12 j hj)
  · exact fun j hj => gim (gj_5_13 j hj)
  · exact fun j hj => gim (gj_5_14 j hj)
  · exact fun j hj => gim (gj_5_15 j hj)
  · exact fun j hj => gim (gj_5_16 j hj)
  · exact fun j hj => gim (gj_5_17 j hj)
  · exact fun j hj => gim (gj_5_18 j hj)
  · exact fun j hj => gim (gj_5_19 j hj)
  · exact fun j hj => gim (gj_5_20 j hj)
  · exact fun j hj => gim (gj_5_21 j hj)
theorem gi_6a : ∀ i, i < 22 → ∀ j, j < i → Cond.not (Cond.eq (tmS j) (tmS i)) ∈ GIV := by
  intro i hi
  have cs : i = 0 ∨ i = 1 ∨ i = 2 ∨ i = 3 ∨ i = 4 ∨ i = 5 ∨ i = 6 ∨ i = 7 ∨ i = 8 ∨ i = 9 ∨ i = 10 ∨ i = 11 ∨ i = 12 ∨ i = 13 ∨ i = 14 ∨ i = 15 ∨ i = 16 ∨ i = 17 ∨ i = 18 ∨ i = 19 ∨ i = 20 ∨ i = 21 := by omega
  rcases cs with rfl | rfl | rfl | rfl | rfl | rfl | rfl | rfl | rfl | rfl | rfl | rfl | rfl | rfl | rfl | rfl | rfl | rfl | rfl | rfl | rfl | rfl
  · exact fun j hj => absurd hj (by omega)
  · exact fun j hj => gim (gj_6_1 j hj)
  · exact fun j hj => gim (gj_6_2 j hj)
  · exact fun j hj => gim (gj_6_3 j hj)
  · exact fun j hj => gim (gj_6_4 j hj)
  · exact fun j hj => gim (gj_6_5 j hj)
  · exact fun j hj => gim (gj_6_6 j hj)
  · exact fun j hj => gim (gj_6_7 j hj)
  · exact fun j hj => gim (gj_6_8 j hj)
  · exact fun j hj => gim (gj_6_9 j hj)
  · exact fun j hj => gim (gj_6_10 j hj)
  · exact fun j hj => gim (gj_6_11 j hj)
  · exact fun j hj => gim (gj_6_12 j hj)
  · exact fun j hj => gim (gj_6_13 j hj)
  · exact fun j hj => gim (gj_6_14 j hj)
  · exact fun j hj => gim (gj_6_15 j hj)
  · exact fun j hj => gim (gj_6_16 j hj)
  · exact fun j hj => gim (gj_6_17 j hj)
  · exact fun j hj => gim (gj_6_18 j hj)
  · exact fun j hj => gim (gj_6_19 j hj)
  · exact fun j hj => gim (gj_6_20 j hj)
  · exact fun j hj => gim (gj_6_21 j hj)
theorem gi_6 : ∀ i, i < 22 → ∀ j, j < 22 → i ≠ j → Cond.not (Cond.eq (tmS i) (tmS j)) ∈ GIV ∨ Cond.not (Cond.eq (tmS j) (tmS i)) ∈ GIV := fun i hi j hj ne => by
  rcases Nat.lt_or_ge i j with h | h
  · exact Or.inl (gi_6a j hj i h)
  · exact Or.inr (gi_6a i hi j (by omega))
theorem gi_7 : Cond.eq (.static "java/lang/String" "COMPACT_STRINGS" "Z") (.int 1) ∈ GIV ∧ Cond.isRef (.static "jdk/internal/util/Preconditions" "SIOOBE_FORMATTER" "Ljava/util/function/BiFunction;") ∈ GIV ∧ Cond.isRef (.static "java/lang/Throwable" "UNASSIGNED_STACK" "[Ljava/lang/StackTraceElement;") ∈ GIV ∧ Cond.isRef (.static "java/lang/Throwable" "SUPPRESSED_SENTINEL" "Ljava/util/List;") ∈ GIV := ⟨List.mem_of_getElem? (i := 4) (by decide +kernel), List.mem_of_getElem? (i := 5) (by decide +kernel), List.mem_of_getElem? (i := 9) (by decide +kernel), List.mem_of_getElem? (i := 10) (by decide +kernel)⟩
theorem len_S : ∀ i, i < 22 → lenS.getD i 0 < 2 ^ 31 := by decide +kernel
theorem st_ref {b : Nat} {s : State} (hts : ∀ w ∈ lw_tbl, w.before #[Value.ref b] s = true) : ∀ q ∈ strL, (Cond.stringRef q.1 q.2.1 q.2.2.1).before #[Value.ref b] s = true := by
  intro q hq
  exact (List.forall_mem_cons.mpr ⟨tbl_w hts (tm1 (List.mem_of_getElem? (i := 214) rfl)), List.forall_mem_cons.mpr ⟨tbl_w hts (tm2 (List.mem_of_getElem? (i := 30) rfl)), List.forall_mem_cons.mpr ⟨tbl_w hts (tm6 (List.mem_of_getElem? (i := 14) rfl)), List.forall_mem_cons.mpr ⟨tbl_w hts (tm7 (List.mem_of_getElem? (i := 201) rfl)), List.forall_mem_cons.mpr ⟨tbl_w hts (tm7 (List.mem_of_getElem? (i := 208) rfl)), List.forall_mem_cons.mpr ⟨tbl_w hts (tm7 (List.mem_of_getElem? (i := 209) rfl)), List.forall_mem_cons.mpr ⟨tbl_w hts (tm7 (List.mem_of_getElem? (i := 210) rfl)), List.forall_mem_cons.mpr ⟨tbl_w hts (tm7 (List.mem_of_getElem? (i := 211) rfl)), List.forall_mem_cons.mpr ⟨tbl_w hts (tm7 (List.mem_of_getElem? (i := 224) rfl)), List.forall_mem_cons.mpr ⟨tbl_w hts (tm7 (List.mem_of_getElem? (i := 225) rfl)), List.forall_mem_cons.mpr ⟨tbl_w hts (tm7 (List.mem_of_getElem? (i := 226) rfl)), List.forall_mem_cons.mpr ⟨tbl_w hts (tm7 (List.mem_of_getElem? (i := 227) rfl)), List.forall_mem_cons.mpr ⟨tbl_w hts (tm7 (List.mem_of_getElem? (i := 228) rfl)), List.forall_mem_cons.mpr ⟨tbl_w hts (tm7 (List.mem_of_getElem? (i := 233) rfl)), List.forall_mem_cons.mpr ⟨tbl_w hts (tm7 (List.mem_of_getElem? (i := 234) rfl)), List.forall_mem_cons.mpr ⟨tbl_w hts (tm7 (List.mem_of_getElem? (i := 235) rfl)), List.forall_mem_cons.mpr ⟨tbl_w hts (tm7 (List.mem_of_getElem? (i := 236) rfl)), List.forall_mem_cons.mpr ⟨tbl_w hts (tm7 (List.mem_of_getElem? (i := 237) rfl)), List.forall_mem_cons.mpr ⟨tbl_w hts (tm7 (List.mem_of_getElem? (i := 238) rfl)), List.forall_mem_cons.mpr ⟨tbl_w hts (tm7 (List.mem_of_getElem? (i := 239) rfl)), List.forall_mem_cons.mpr ⟨tbl_w hts (tm8 (List.mem_of_getElem? (i := 0) rfl)), List.forall_mem_cons.mpr ⟨tbl_w hts (tm8 (List.mem_of_getElem? (i := 1) rfl)), fun _ h => absurd h List.not_mem_nil⟩⟩⟩⟩⟩⟩⟩⟩⟩⟩⟩⟩⟩⟩⟩⟩⟩⟩⟩⟩⟩⟩ : ∀ q ∈ strL, (Cond.stringRef q.1 q.2.1 q.2.2.1).before #[Value.ref b] s = true) q hq
theorem st_idx : ∀ q ∈ strL, q.2.2.2 < 22 ∧ Term.string q.1 q.2.1 = tmS q.2.2.2 := by decide +kernel
theorem ao_of {C : String} {b : Nat} {s : State} (h : (Cond.arrayOver (.object C)).before #[Value.ref b] s = true) : va_AO C s := va_AO.of h
theorem aoi_of {b : Nat} {s : State} (h : (Cond.arrayOver (.array .int)).before #[Value.ref b] s = true) : va_AOI s := h
theorem nest_0 {b : Nat} {s : State} (hts : ∀ w ∈ lw_tbl, w.before #[Value.ref b] s = true) : ∀ w ∈ NESTL, va_Nw w s := fun w hw => by
  have h := List.mem_filter.mp hw
  have t := tbl_w hts h.1
  have c := h.2
  cases w <;> first | (cases c; done) | exact va_Nw.of rfl t
/-- the start, in the walk's words -/
theorem cx_0 {b : Nat} {s : State} (hbl : b < s.heap.size) (hts : ∀ w ∈ lw_tbl, w.before #[Value.ref b] s = true) (hg : (Jvm.Cond.and given_1 narrow_1).before #[Value.ref b] s = true) : ∃ (ad : Nat → Nat) (cy dC : Nat → ClassId) (dI : Nat → Nat → Nat), Cx ad cy dC dI s.heap.size s ∧ ad SCR = b ∧ ∀ j, 1 + j < STR → ad (1 + j) = s.heap.size + j := by
  have gv : ∀ w ∈ GIV, w.before #[Value.ref b] s = true := flat_of_before _ hg
  have hA : ∀ a : Nat, a < s.heap.size → ¬ Aof s.heap.size a := fun a ha => Nat.not_le.mpr ha
  obtain ⟨dq, hdq⟩ := Classical.axiomOfChoice (kn_all hts)
  obtain ⟨cy, hcy⟩ := ar_all hts
  obtain ⟨adK, adV, hS, hev⟩ := vk_Sof (args := #[Value.ref b]) (s := s) (N := 22) (tm := tmS) (len := lenS) (byt := bytS) (A := Aof s.heap.size) len_S (fun i hi => gv _ (gi_1 i hi)) (fun i hi => gv _ (gi_2 i hi)) (fun i hi => gv _ (gi_3 i hi)) (fun i hi => gv _ (gi_4 i hi)) (fun i hi j hj => gv _ (gi_5 i hi j hj)) (fun i j hi hj ne => (gi_6 i hi j hj ne).imp (gv _) (gv _)) hA
  have z1 : va_Z "java/lang/String" "COMPACT_STRINGS" "Z" (.int 1) (Aof s.heap.size) s s.heap := va_Zof (tbl_w hts (tm1 (List.mem_of_getElem? (i := 227) rfl))) (tbl_w hts (tm1 (List.mem_of_getElem? (i := 11) rfl))) (va_eqi (gv _ gi_7.1)) hA
  have z2 := va_Zqof (args := #[Value.ref b]) (s := s) (A := Aof s.heap.size) (tbl_w hts (tm2 (List.mem_of_getElem? (i := 3) rfl))) (tbl_w hts (tm1 (List.mem_of_getElem? (i := 13) rfl))) (gv _ gi_7.2.1) hA
  obtain ⟨q0, hq0⟩ : ∃ q0 : Nat, va_Z "jdk/internal/util/Preconditions" "SIOOBE_FORMATTER" "Ljava/util/function/BiFunction;" .null (Aof s.heap.size) s s.heap ∨ va_Z "jdk/internal/util/Preconditions" "SIOOBE_FORMATTER" "Ljava/util/function/BiFunction;" (.ref q0) (Aof s.heap.size) s s.heap := by
    rcases z2 with h | ⟨t, h⟩
    · exact ⟨0, Or.inl h⟩
    · exact ⟨t, Or.inr h⟩
  refine ⟨fun k => if k < STR then s.heap.size + (k - 1) else if k < STR + 32 then adK (k - STR) else if k < STR + 64 then adV (k - STR - 32) else if k = STR + 64 then q0 else b, cy, fun k => (dq k).1, fun k => (dq k).2, ⟨⟨fun k x hx => hdq k x hx, hcy⟩, nest_0 hts, Nat.le_refl _, ?_, z1, ?_, fun q hq => ?_, ao_of (tbl_w hts (tm1 (List.mem_of_getElem? (i := 41) rfl))), ao_of (tbl_w hts (tm1 (List.mem_of_getElem? (i := 43) rfl))), ao_of (tbl_w hts (tm1 (List.mem_of_getElem? (i := 168) rfl))), ao_of (tbl_w hts (tm1 (List.mem_of_getElem? (i := 170) rfl))), aoi_of (tbl_w hts (tm2 (List.mem_of_getElem? (i := 176) rfl)))⟩, ?_, fun j hj => ?_⟩
  · refine ⟨fun i hi => ?_, fun i j hi hj h => ?_⟩
    · have := hS.1 i hi
      dsimp only
      rw [if_neg (by omega), if_pos (by omega), if_neg (by omega), if_neg (by omega), if_pos (by omega), show STR + i - STR = i by omega, show STR + 32 + i - STR - 32 = i by omega]
      exact this
    · dsimp only at h
      rw [if_neg (by omega), if_pos (by omega), if_neg (by omega), if_pos (by omega), show STR + i - STR = i by omega, show STR + j - STR = j by omega] at h
      exact hS.2 i j hi hj h
  · dsimp only
    rw [if_neg (by omega), if_neg (by omega), if_neg (by omega), if_pos rfl]
    exact hq0
  · obtain ⟨h1, h2⟩ := st_idx q hq
    dsimp only
    rw [if_neg (by omega), if_pos (by omega), show STR + q.2.2.2 - STR = q.2.2.2 by omega]
    exact vk_R.of (st_ref hts q hq) (by rw [h2]; exact hev _ h1)
  · dsimp only
    unfold SCR
    rw [if_neg (by omega), if_neg (by omega), if_neg (by omega), if_neg (by omega)]
  · dsimp only
    rw [if_pos hj, show 1 + j - 1 = j by omega]
