/-! MILLOF'S THROW: its words, and that the method throws -/
def NSE : String := "java/util/NoSuchElementException"
def RTE : String := "java/lang/RuntimeException"
def c_face : Cond → Bool
  | .declares _ => true
  | .castable .. => true
  | _ => false
def FACEL : List Cond := tables_1.filter c_face
theorem face_ot {w : Cond} (h : c_face w = true) : w.onTables = true := by
  cases w <;> first | (cases h; done) | rfl
theorem face_warm {s U : State} (hW : s.WarmedH U.vm) {w : Cond} (h : c_face w = true) (hz : va_Nw w s) : va_Nw w U := by
  cases w <;> first | (cases h; done) | exact va_Nw.warmD hW hz | exact va_Nw.warmC hW hz
theorem face_0 {b : Nat} {s : State} (hts : ∀ w ∈ lw_tbl, w.before #[Value.ref b] s = true) : ∀ w ∈ FACEL, va_Nw w s := fun w hw => by
  have h := List.mem_filter.mp hw
  exact va_Nw.of (face_ot h.2) (tbl_w hts h.1)
theorem ns_t1 : ∀ w ∈ Bundle.throwableAtoms, vx_no w = true → w ∈ tables_1 := List.forall_mem_cons.mpr ⟨fun _ => tm1 (List.mem_of_getElem? (i := 22) rfl), List.forall_mem_cons.mpr ⟨fun _ => tm5 (List.mem_of_getElem? (i := 237) rfl), List.forall_mem_cons.mpr ⟨fun _ => tm6 (List.mem_of_getElem? (i := 6) rfl), List.forall_mem_cons.mpr ⟨fun _ => tm6 (List.mem_of_getElem? (i := 8) rfl), List.forall_mem_cons.mpr ⟨fun _ => tm6 (List.mem_of_getElem? (i := 11) rfl), List.forall_mem_cons.mpr ⟨fun _ => tm6 (List.mem_of_getElem? (i := 13) rfl), List.forall_mem_cons.mpr ⟨fun _ => tm5 (List.mem_of_getElem? (i := 238) rfl), List.forall_mem_cons.mpr ⟨fun _ => tm5 (List.mem_of_getElem? (i := 239) rfl), List.forall_mem_cons.mpr ⟨fun _ => tm1 (List.mem_of_getElem? (i := 32) rfl), List.forall_mem_cons.mpr ⟨fun _ => tm1 (List.mem_of_getElem? (i := 33) rfl), List.forall_mem_cons.mpr ⟨fun _ => tm6 (List.mem_of_getElem? (i := 0) rfl), List.forall_mem_cons.mpr ⟨fun _ => tm6 (List.mem_of_getElem? (i := 5) rfl), List.forall_mem_cons.mpr ⟨fun _ => tm6 (List.mem_of_getElem? (i := 9) rfl), List.forall_mem_cons.mpr ⟨fun _ => tm6 (List.mem_of_getElem? (i := 29) rfl), List.forall_mem_cons.mpr ⟨fun _ => tm5 (List.mem_of_getElem? (i := 227) rfl), List.forall_mem_cons.mpr ⟨fun _ => tm6 (List.mem_of_getElem? (i := 30) rfl), List.forall_mem_cons.mpr ⟨fun _ => tm5 (List.mem_of_getElem? (i := 229) rfl), List.forall_mem_cons.mpr ⟨fun _ => tm6 (List.mem_of_getElem? (i := 31) rfl), List.forall_mem_cons.mpr ⟨fun _ => tm5 (List.mem_of_getElem? (i := 231) rfl), List.forall_mem_cons.mpr ⟨fun _ => tm6 (List.mem_of_getElem? (i := 1) rfl), List.forall_mem_cons.mpr ⟨fun _ => tm6 (List.mem_of_getElem? (i := 2) rfl), List.forall_mem_cons.mpr ⟨fun _ => tm6 (List.mem_of_getElem? (i := 3) rfl), List.forall_mem_cons.mpr ⟨fun _ => tm6 (List.mem_of_getElem? (i := 4) rfl), List.forall_mem_cons.mpr ⟨fun _ => tm5 (List.mem_of_getElem? (i := 233) rfl), List.forall_mem_nil _⟩⟩⟩⟩⟩⟩⟩⟩⟩⟩⟩⟩⟩⟩⟩⟩⟩⟩⟩⟩⟩⟩⟩⟩
theorem ns_t2 : ∀ w ∈ Bundle.throwableSAtoms, vx_no w = true → w ∈ tables_1 := List.forall_mem_cons.mpr ⟨fun _ => tm6 (List.mem_of_getElem? (i := 25) rfl), List.forall_mem_cons.mpr ⟨fun _ => tm6 (List.mem_of_getElem? (i := 26) rfl), List.forall_mem_cons.mpr ⟨fun _ => tm6 (List.mem_of_getElem? (i := 28) rfl), List.forall_mem_cons.mpr ⟨fun _ => tm5 (List.mem_of_getElem? (i := 233) rfl), List.forall_mem_nil _⟩⟩⟩⟩
theorem ns_t3 : ∀ w ∈ Bundle.passSAtoms NSE RTE 13 prog_30_method_4_code, vx_no w = true → w ∈ tables_1 := List.forall_mem_cons.mpr ⟨fun _ => tm6 (List.mem_of_getElem? (i := 16) rfl), List.forall_mem_cons.mpr ⟨fun _ => tm6 (List.mem_of_getElem? (i := 17) rfl), List.forall_mem_cons.mpr ⟨fun _ => tm6 (List.mem_of_getElem? (i := 18) rfl), List.forall_mem_cons.mpr ⟨fun _ => tm6 (List.mem_of_getElem? (i := 19) rfl), List.forall_mem_cons.mpr ⟨fun _ => tm5 (List.mem_of_getElem? (i := 219) rfl), List.forall_mem_nil _⟩⟩⟩⟩⟩
theorem ns_t4 : ∀ w ∈ Bundle.passSAtoms RTE ("java/lang/Exception") 7 Bundle.six, vx_no w = true → w ∈ tables_1 := List.forall_mem_cons.mpr ⟨fun _ => tm6 (List.mem_of_getElem? (i := 19) rfl), List.forall_mem_cons.mpr ⟨fun _ => tm6 (List.mem_of_getElem? (i := 20) rfl), List.forall_mem_cons.mpr ⟨fun _ => tm6 (List.mem_of_getElem? (i := 21) rfl), List.forall_mem_cons.mpr ⟨fun _ => tm6 (List.mem_of_getElem? (i := 22) rfl), List.forall_mem_cons.mpr ⟨fun _ => tm5 (List.mem_of_getElem? (i := 221) rfl), List.forall_mem_nil _⟩⟩⟩⟩⟩
theorem ns_t5 : ∀ w ∈ Bundle.passSAtoms ("java/lang/Exception") Bundle.tN 7 Bundle.six, vx_no w = true → w ∈ tables_1 := List.forall_mem_cons.mpr ⟨fun _ => tm6 (List.mem_of_getElem? (i := 22) rfl), List.forall_mem_cons.mpr ⟨fun _ => tm6 (List.mem_of_getElem? (i := 23) rfl), List.forall_mem_cons.mpr ⟨fun _ => tm6 (List.mem_of_getElem? (i := 24) rfl), List.forall_mem_cons.mpr ⟨fun _ => tm6 (List.mem_of_getElem? (i := 25) rfl), List.forall_mem_cons.mpr ⟨fun _ => tm5 (List.mem_of_getElem? (i := 223) rfl), List.forall_mem_nil _⟩⟩⟩⟩⟩
def ns_l6 : List Cond := [.methodLink "MillBoats" 246 (Bundle.initS NSE), .instantiable NSE 6, .castable NSE NSE, .selects NSE Bundle.tFill0 Bundle.tFill0, .selects NSE Bundle.tFill Bundle.tFill,
   .lays NSE Bundle.tN "cause" "Ljava/lang/Throwable;", .lays NSE Bundle.tN "stackTrace" Bundle.steD, .lays NSE Bundle.tN "suppressedExceptions" Bundle.listD, .lays NSE Bundle.tN "detailMessage" "Ljava/lang/String;",
   .isRef (.static Bundle.tN "UNASSIGNED_STACK" Bundle.steD), .isRef (.static Bundle.tN "SUPPRESSED_SENTINEL" Bundle.listD),
   .fieldLink Bundle.tN 198 Bundle.tN "backtrace" "Ljava/lang/Object;", .lays Bundle.tN Bundle.tN "backtrace" "Ljava/lang/Object;", .lays NSE Bundle.tN "backtrace" "Ljava/lang/Object;"]
theorem nvx_1 : vx_no (.isRef (.static Bundle.tN "UNASSIGNED_STACK" Bundle.steD)) = true → Cond.isRef (.static Bundle.tN "UNASSIGNED_STACK" Bundle.steD) ∈ tables_1 := fun h => absurd h (by decide +kernel)
theorem nvx_2 : vx_no (.isRef (.static Bundle.tN "SUPPRESSED_SENTINEL" Bundle.listD)) = true → Cond.isRef (.static Bundle.tN "SUPPRESSED_SENTINEL" Bundle.listD) ∈ tables_1 := fun h => absurd h (by decide +kernel)
theorem ns_t6 : ∀ w ∈ ns_l6, vx_no w = true → w ∈ tables_1 := List.forall_mem_cons.mpr ⟨fun _ => tm6 (List.mem_of_getElem? (i := 15) rfl), List.forall_mem_cons.mpr ⟨fun _ => tm5 (List.mem_of_getElem? (i := 216) rfl), List.forall_mem_cons.mpr ⟨fun _ => tm5 (List.mem_of_getElem? (i := 217) rfl), List.forall_mem_cons.mpr ⟨fun _ => tm5 (List.mem_of_getElem? (i := 224) rfl), List.forall_mem_cons.mpr ⟨fun _ => tm5 (List.mem_of_getElem? (i := 225) rfl), List.forall_mem_cons.mpr ⟨fun _ => tm5 (List.mem_of_getElem? (i := 226) rfl), List.forall_mem_cons.mpr ⟨fun _ => tm5 (List.mem_of_getElem? (i := 228) rfl), List.forall_mem_cons.mpr ⟨fun _ => tm5 (List.mem_of_getElem? (i := 230) rfl), List.forall_mem_cons.mpr ⟨fun _ => tm5 (List.mem_of_getElem? (i := 232) rfl), List.forall_mem_cons.mpr ⟨nvx_1, List.forall_mem_cons.mpr ⟨nvx_2, List.forall_mem_cons.mpr ⟨fun _ => tm5 (List.mem_of_getElem? (i := 236) rfl), List.forall_mem_cons.mpr ⟨fun _ => tm5 (List.mem_of_getElem? (i := 235) rfl), List.forall_mem_cons.mpr ⟨fun _ => tm5 (List.mem_of_getElem? (i := 234) rfl), List.forall_mem_nil _⟩⟩⟩⟩⟩⟩⟩⟩⟩⟩⟩⟩⟩⟩
abbrev nsL : List Cond := ns_at "MillBoats" 246 NSE RTE 13 prog_30_method_4_code ["java/lang/Exception"]
theorem ns_mem : ∀ w ∈ nsL, w ∈ tables_1 := by
  intro w hw
  obtain ⟨h1, h2⟩ := List.mem_filter.mp hw
  have e : ns_atoms "MillBoats" 246 NSE RTE 13 prog_30_method_4_code ["java/lang/Exception"] = Bundle.throwableAtoms ++ Bundle.throwableSAtoms ++ (Bundle.passSAtoms NSE RTE 13 prog_30_method_4_code ++ (Bundle.passSAtoms RTE "java/lang/Exception" 7 Bundle.six ++ Bundle.passSAtoms "java/lang/Exception" Bundle.tN 7 Bundle.six)) ++ ns_l6 := rfl
  rw [e] at h1
  simp only [List.mem_append] at h1
  rcases h1 with ((h | h) | (h | (h | h))) | h
  · exact ns_t1 w h h2
  · exact ns_t2 w h h2
  · exact ns_t3 w h h2
  · exact ns_t4 w h h2
  · exact ns_t5 w h h2
  · exact ns_t6 w h h2
theorem ns_kind : nsL.all (fun w => goodWord w || c_face w) = true := by decide +kernel
theorem ns_hat {args : Array Value} {s : State} (hal : ∀ w ∈ ALLG, w.before args s = true) (hf : ∀ w ∈ FACEL, va_Nw w s) : ∀ w ∈ nsL, w.before args s = true := by
  intro w hw
  have hm := ns_mem w hw
  have hk := List.all_eq_true.mp ns_kind w hw
  simp only [Bool.or_eq_true] at hk
  rcases hk with h | h
  · exact hal w (List.mem_filter.mpr ⟨List.mem_append_right _ hm, h⟩)
  · exact va_Nw.use (face_ot h) (hf w (List.mem_filter.mpr ⟨hm, h⟩))
theorem ns_good : ∀ w ∈ Cond.classLink "MillBoats" 242 NSE :: Cond.initialized NSE :: nsL, vx_ot w = true := by
  intro w hw
  rcases List.mem_cons.mp hw with rfl | hw
  · rfl
  · rcases List.mem_cons.mp hw with rfl | hw
    · rfl
    · have hk := List.all_eq_true.mp ns_kind w hw
      simp only [Bool.or_eq_true] at hk
      show (w.onTables || goodWord w) = true
      rcases hk with h | h
      · rw [h, Bool.or_true]
      · rw [face_ot h, Bool.true_or]
/-- what the throw needs of the machine -/
def Tx (B0 : Nat) (U : State) : Prop := (∀ w ∈ FACEL, va_Nw w U) ∧ vx_Zq Bundle.tN "UNASSIGNED_STACK" Bundle.steD (Aof B0) U U.heap ∧ vx_Zq Bundle.tN "SUPPRESSED_SENTINEL" Bundle.listD (Aof B0) U U.heap
theorem Tx.go {B0 : Nat} {s U : State} {H : Heap} {locs : List Loc} (h : Tx B0 s) (hW : s.WarmedH U.vm) (hS : va_S (Aof B0) s.heap H locs) (hH : U.heap = H) : Tx B0 U := by
  obtain ⟨h1, h2, h3⟩ := h
  subst hH
  exact ⟨fun w hw => face_warm hW (List.mem_filter.mp hw).2 (h1 w hw), vx_Zq.moved hW.alike (h2.kept hS.2.1), vx_Zq.moved hW.alike (h3.kept hS.2.1)⟩
theorem Tx.calling {B0 : Nat} {U : State} {g : JFrame} {mk : MethodId} {a : Array Value} (h : Tx B0 U) : Tx B0 (U.calling g mk a) := by
  obtain ⟨h1, h2, h3⟩ := h
  have al : U.vm.Alike (U.calling g mk a).vm := Vm.Alike.refl U.vm
  exact ⟨fun w hw => va_Nw.same (face_ot (List.mem_filter.mp hw).2) (rfl : U.vm = (U.calling g mk a).vm) (h1 w hw), vx_Zq.moved al h2, vx_Zq.moved al h3⟩
def PX (ad : Nat → Nat) (cy dC : Nat → ClassId) (dI : Nat → Nat → Nat) (B0 : Nat) (σ : St) (U : State) : Prop := Cx ad cy dC dI B0 U ∧ Wd ad cy dC dI B0 σ U.heap ∧ Tx B0 U
theorem blindX {ad : Nat → Nat} {cy dC : Nat → ClassId} {dI : Nat → Nat → Nat} {B0 : Nat} {σ : St} {vs : List Value} : FrameBlind (va_Pc vs (PX ad cy dC dI B0 σ)) := fun a U g mk h => ⟨h.1, h.2.1.calling, h.2.2.1, h.2.2.2.calling⟩
/-- what is left after the throw -/
def XA (ad : Nat → Nat) (cy dC : Nat → ClassId) (dI : Nat → Nat → Nat) (B0 : Nat) (σ : St) : String → State → State → Prop := fun E st t => E = NSE ∧ va_P (dC, dI) vwCl (wld ad cy σ) t.heap ∧ va_D (Aof B0) (wld ad cy σ) ∧ va_F (Aof B0) st t
theorem dm_21 : decode prog_1_method_33_code 21 = .ok (.new 242, 3) := by decide +kernel
theorem dm_24 : decode prog_1_method_33_code 24 = .ok (.dup, 1) := by decide +kernel
theorem dm_25 : decode prog_1_method_33_code 25 = .ok (.ldc 244, 2) := by decide +kernel
theorem dm_27 : decode prog_1_method_33_code 27 = .ok (.invokespecial 246, 3) := by decide +kernel
theorem dm_30 : decode prog_1_method_33_code 30 = .ok (.athrow, 1) := by decide +kernel
theorem wn_25 : Cond.initialized NSE ∈ ALLG := tk1 25 rfl rfl
theorem wn_1175 : Cond.classLink "MillBoats" 242 NSE ∈ ALLG := tk5 215 rfl rfl
theorem dn_0 : decode prog_30_method_4_code 0 = .ok (.aload_n 0, 1) := by decide +kernel
theorem dn_1 : decode prog_30_method_4_code 1 = .ok (.aload_n 1, 1) := by decide +kernel
theorem dn_2 : decode prog_30_method_4_code 2 = .ok (.invokespecial 13, 3) := by decide +kernel
theorem dn_5 : decode prog_30_method_4_code 5 = .ok (.return_, 1) := by decide +kernel
theorem fit_n : Bundle.fit NSE = true ∧ Bundle.fit RTE = true ∧ ∀ n ∈ ["java/lang/Exception"], Bundle.fit n = true := by decide +kernel
theorem mo_throw {l : Launch} (hl : l.stackTraces = false) {ad : Nat → Nat} {cy dC : Nat → ClassId} {dI : Nat → Nat → Nat} {B0 : Nat} {σ : St} (L : Lay σ) (hz : sN σ < STR) {k w r : Int32} (hr : f8_has σ 2 k = some (r, σ)) (hbad : r = 0 ∨ w < 0 ∨ ¬ w ≤ 7) :
    vx_Met l m11_millOf.2.1 (WS m11_millOf) (rmOf 10 1 6) (va_Pc ([Value.ref 1, .int k, .int w].map (sh ad)) (PX ad cy dC dI B0 σ)) (fun _ _ _ _ => False) (XA ad cy dC dI B0 σ) 1 6 (Aof B0) := by
  refine vx_ofW (cc := prog_1_method_33_code) (maxL := 4) (ret := some Jvm.ClassFile.FieldType.int) (by decide +kernel) rfl ?_
  intro p e s m args below meth c s₁ B hml ht hv
  obtain ⟨rfl, hC, hW, hT⟩ := hv
  have hts := atoms_spec (ws := WS m11_millOf) B.pre
  have hown : s.vm.findClass "MillBoats" = some m.cls := findClass_of_methodNamed B.named
  have hls := lv_entry ([Value.ref 1, .int k, .int w].map (sh ad)) (n := 4) (by rw [sl_len]; exact Nat.le_of_ble_eq_true rfl)
  rw [lg_entry_eq]
  generalize (lg_sl ([Value.ref 1, .int k, .int w].map (sh ad)) ++ List.replicate (4 - (lg_sl ([Value.ref 1, .int k, .int w].map (sh ad))).length) Slot.unset).toArray = ls at hls ⊢
  rw [← shl_args] at hls
  have hx := B.exec
  have hb := B.bytes
  have hal : ∀ w9 ∈ ALLG, w9.before ([Value.ref 1, .int k, .int w].map (sh ad)).toArray s = true := fun w hw => fin_word hts hw
  have thr : ∀ (H1 : Heap) (locs1 : List Loc), Wd ad cy dC dI B0 σ H1 → va_S (Aof B0) s.heap H1 locs1 → W p l e (rmOf 10 1 6) s m ([Value.ref 1, .int k, .int w].map (sh ad)).toArray below meth c H1 locs1 0 0 (vx_MQ below (fun _ _ _ _ => False) (XA ad cy dC dI B0 σ) ([Value.ref 1, .int k, .int w].map (sh ad)).toArray s 1 6 (Aof B0)) (F0 m 21 ls []) := by
    intro H1 locs1 hW1 hS1
    refine ns_throw (A := Aof B0) (text := "no such mill or nothing of that kind") (ik := 242) (is := 244) (sa := ad (STR + 2)) hx hb hl hown fit_n.1 fit_n.2.1 dn_0 dn_1 dn_2 dn_5 fit_n.2.2 (hal _ wn_1175) (hal _ wn_25) ?_ (ns_hat hal hT.1) ns_good hT.2.1 hT.2.2 hS1 (hls.1.trans hml.symm) dm_21 dm_24 dm_25 dm_27 dm_30 (fun x hx => (ht x hx).elim) (by decide) (by decide) (by decide) (by decide) B.notSynchronized ?_ (fun z hz => hS1.2.2 z hz) (by decide) (by decide)
    · exact hC.2.2.2.2.2.2.1 ("MillBoats", 244, "no such mill or nothing of that kind", 2) (by decide +kernel)
    · intro t _ h1 h2
      refine ⟨rfl, hW1.1.kept (fun k q hk => h2 _ (vx_lt hW1.1 hk)), hW1.2.1, Nat.le_trans hS1.1 h1, fun q hq hn => ?_⟩
      rw [h2 q (Nat.lt_of_lt_of_le hq hS1.1), hS1.2.1 q hq hn]
  refine lv_aload_n hx hb d11_millOf_0 (i := 0) rfl (lv_at hls 0 rfl) ?_
  have hg1 := wld_get (ad := ad) (cy := cy) (show 1 ≤ 1 by decide) (show 1 ≤ sN σ from Nat.le_trans (by decide) L.2.2)
  rw [cel_ob (ob_spec (oL1 L)).1 cls11.2.1] at hg1
  refine va_get (D := (dC, dI)) (v := .ref (ad 2)) hx hb hts (fun w h => List.mem_cons_of_mem _ (cls11.2.2.2.1 w h)) hown hC.1 hW.1 0 hg1 cls11.1 0 (by decide) (fin_word hts w507) (fun _ h => h) ?_ d11_millOf_1 ?_
  · rw [flds_at (by rw [cls11.2.2.1]; decide), fV_ref (by decide) (by rw [rL1_0 L]; decide), rL1_0 L]
  refine lv_iload_n hx hb d11_millOf_4 (i := 1) rfl (lv_at hls 1 rfl) ?_
  have hc := s8_has _ _ _ _ _ hr
  obtain ⟨hk9, ha1, ha2⟩ := ob_spec (oL2 L)
  have hg2 := wld_get (ad := ad) (cy := cy) ha1 ha2
  rw [cel_ob hk9 cls8.2.1] at hg2
  have hCB := callB_of (Ts := WS m11_millOf) (R := rmOf 10 1 6) (rm := rmOf 2 (sN σ - sN σ) (sU σ - sU σ)) 1 hts (good_ws w579) rfl rfl rfl (fin_word hts w2) (fin_word hts w576) k8_has ⟨(by decide : 2 + 1 ≤ 10), Nat.le_of_ble_eq_true rfl⟩
  refine x_call (va_runV (As := [.int k]) (rest := []) (g := F0 m 5 ls [.int k, .ref (ad 2)]) ⟨hx, hb, hml, hown, hts⟩ (hc.2 l ad cy dC dI B0 hz) ⟨hCB, fin_word hts w577, fin_word hts w578⟩ ⟨blind, va_recv hC.1 hW.1 cls8.1 hg2, fun U hU hWm => ⟨rfl, hC.go hWm va_S.rf hU, by rw [hU]; exact hW⟩⟩ rfl rfl hls.1 rfl (by show 2 * 0 + 0 ≤ 8; decide) d11_millOf_5 ⟨by show 0 + (sN σ - sN σ) ≤ 1; omega, by show 0 + (sU σ - sU σ) ≤ 6; omega⟩) va_S.rf (fun H1 locs1 hW1 hS1 => ?_)
  rw [Nat.sub_self, Nat.sub_self]
  refine lv_if_eq hx hb d11_millOf_8 (tgt := 21) (by decide) (fun _ => thr H1 locs1 hW1 hS1) (fun h0 => ?_)
  have hb2 : w < 0 ∨ ¬ w ≤ 7 := hbad.elim (fun h => absurd h h0) id
  refine lv_iload_n hx hb d11_millOf_11 (i := 2) rfl (lv_at hls 2 rfl) ?_
  refine lv_if_lt hx hb d11_millOf_12 (tgt := 21) (by decide) (fun _ => thr H1 locs1 hW1 hS1) (fun h1 => ?_)
  have hb3 : ¬ w ≤ 7 := hb2.elim (fun h => absurd h h1) id
  refine lv_iload_n hx hb d11_millOf_15 (i := 2) rfl (lv_at hls 2 rfl) ?_
  refine lv_bipush hx hb d11_millOf_16 (v := 7) (by decide) ?_
  exact lv_icmp_le hx hb d11_millOf_18 (tgt := 31) (by decide) (fun h => absurd h hb3) (fun _ => thr H1 locs1 hW1 hS1)
