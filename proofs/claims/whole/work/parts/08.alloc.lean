/-! NEW CELLS, COPIES, RETURNS, CALLS, over Ev -/
section
variable {d : Nat} {M : MD} {pc : Nat} {lv : List (Nat × Value)} {sk : List Value} {σ τ : St} {r : Option Value}
theorem ad_new {ad : Nat → Nat} {cy dC : Nat → ClassId} {dI : Nat → Nat → Nat} {B0 : Nat} {H : Heap} (hW : Wd ad cy dC dI B0 σ H) (hz : sN σ + 1 < STR) : ad (sN σ + 1) = H.size := by have := hW.2.2 0 hz; simpa using this
theorem va_S.grow {A : Nat → Prop} {H0 H H1 : Heap} {locs : List Loc} (h : va_S A H0 H locs) (z : H.size ≤ H1.size) (oq : ∀ q : Nat, q < H.size → H1[q]? = H[q]?) : va_S A H0 H1 locs :=
  ⟨Nat.le_trans h.1 z, fun q h1 h2 => (oq q (Nat.lt_of_lt_of_le h1 h.1)).trans (h.2.1 q h1 h2), h.2.2⟩
def okTy : FieldType → Bool
  | .int => true
  | .boolean => true
  | .object _ => true
  | .array _ => true
  | _ => false
theorem okTy_def {ad : Nat → Nat} {t : FieldType} (h : okTy t = true) : defaultValue t = fV ad t 0 0 := by cases t <;> first | (cases h; done) | rfl
theorem cx_B {ad : Nat → Nat} {cy dC : Nat → ClassId} {dI : Nat → Nat → Nat} {B0 : Nat} {s : State} {H : Heap} {locs : List Loc} (h : Cx ad cy dC dI B0 s) (hS : va_S (Aof B0) s.heap H locs) : B0 ≤ H.size := Nat.le_trans h.2.2.1 hS.1
theorem ev_new {ci : Nat} {C : String} {T : u_T} {N idx : Nat} (cf : Cls ci C T N) (hok : ∀ j, j < N → okTy (tyF ci j) = true) (hw1 : Cond.classLink M.1 idx C ∈ ALLG) (hw2 : Cond.instantiable C N ∈ ALLG) (hw3 : Cond.initialized C ∈ ALLG)
    (hd : decode M.2.2.1 pc = .ok (.new idx, 3)) (k : Ev d M (pc + 3) lv (.ref (sN σ + 1) :: sk) (wN σ ci N) r τ) : Ev d M pc lv sk σ r τ := by
  have hm : sN σ + 1 ≤ sN τ := k.1.1
  have hu : sU σ + N ≤ sU τ := k.1.2.1
  refine ⟨mono_tr mono_N k.1, ?_⟩
  intro p l e s m args below meth c H locs ls ad cy dC dI B0 n0 u0 K hz h1 h2 hS hW hl
  obtain ⟨hx, hb, hret, hml, hown, hlk, hmn, hts, hC⟩ := id K
  have ea := ad_new hW (by omega)
  have hKn := hC.1.1 ci _ cf.1
  refine W.newcK hx hb hown (fin_word hts hw1) (fin_word hts hw2) (fin_word hts hw3) rfl hd (by show _ ≤ sN τ - n0; omega) (by show _ ≤ sU τ - u0; omega) hKn.2.1 rfl fun H1 kC hkC e1 z1 o1 => ?_
  have hW2 : Wd ad cy dC dI B0 (wN σ ci N) H1 := by
    refine hW.push (cx_B hC hS) rfl (by omega) (fun b hb => cel_wN hb) ?_ z1 o1
    have hk : (sK (wN σ ci N) (sN σ + 1)).1 = ci := by show (if sN σ + 1 = sN σ + 1 then (ci, N) else _).1 = ci; rw [if_pos rfl]
    rw [cel_ob hk cf.2.1]
    refine ⟨_, cf.1, ?_⟩
    refine (u_born (tyF ci) hts (fun w h => List.mem_cons_of_mem _ (cf.2.2.2.1 w h)) hKn hkC e1 cf.2.2.2.2.1).to (fun j hj => ?_)
    unfold vp_V
    rw [List.getD_eq_getElem?_getD, flds_at (by rw [cf.2.2.1]; exact hj)]
    show _ = fV ad (tyF ci j) (if sN σ + 1 = sN σ + 1 then 0 else _) (if sN σ + 1 = sN σ + 1 then 0 else _)
    rw [if_pos rfl, if_pos rfl]
    exact okTy_def (hok j hj)
  have kk := k.2 p l e s m args below meth c H1 locs ls ad cy dC dI B0 n0 u0 K hz (by show _ ≤ sN σ + 1; omega) (by show _ ≤ sU σ + N; omega) (hS.grow (by omega) o1) hW2 hl
  rw [show sN (wN σ ci N) - n0 = sN σ - n0 + 1 from by show sN σ + 1 - n0 = _; omega, show sU (wN σ ci N) - u0 = sU σ - u0 + N from by show sU σ + N - u0 = _; omega] at kk
  have kk2 : W p l e (rmOf d (sN τ - n0) (sU τ - u0)) s m args below meth c H1 locs (sN σ - n0 + 1) (sU σ - u0 + N) (MQ below (Qe ad cy dC dI B0 r τ) args s (sN τ - n0) (sU τ - u0) (Aof B0)) (F0 m (pc + 3) ls (.ref (ad (sN σ + 1)) :: sk.map (sh ad))) := kk
  rw [ea] at kk2
  exact kk2
def szOk (n : Int32) : Bool := decide (0 ≤ n.toInt) && decide (n.toInt ≤ 100000)
theorem szOk_spec {n : Int32} (h : szOk n = true) : ¬ n < 0 ∧ ix n ≤ 100000 := by
  simp only [szOk, Bool.and_eq_true, decide_eq_true_eq] at h
  refine ⟨fun q => ?_, ?_⟩
  · have := Int32.lt_iff_toInt_lt.mp q
    simp at this
    omega
  · show n.toInt.toNat ≤ 100000
    omega
theorem ra_prim {cy dC : Nat → ClassId} {dI : Nat → Nat → Nat} {s : State} (hK : va_K (dC, dI) vwCl (tysOf cy) s) {kd : Nat} {t : FieldType} (hk : (tysOf cy)[kd - 13]? = some (cy kd, t)) (hp : isRf t = false) {cA : ClassId} (h : s.vm.findClass ("[" ++ t.toString) = some cA) : cA = cy kd := by
  have h2 := (hK.2 _ _ hk).2
  have h3 : s.vm.findClass ("[" ++ t.toString) = some (cy kd) := by
    cases t <;> first | (cases hp; done) | exact h2
  exact Option.some.inj (h.symm.trans h3)
theorem ev_newa_byte {n : Int32} (hw : Cond.arrayClass .byte ∈ ALLG) (hn : szOk n = true) (hd : decode M.2.2.1 pc = .ok (.newarray .byte, 2)) (k : Ev d M (pc + 2) lv (.ref (sN σ + 1) :: sk) (wN σ 13 (ix n)) r τ) : Ev d M pc lv (.int n :: sk) σ r τ := by
  have hm : sN σ + 1 ≤ sN τ := k.1.1
  have hu : sU σ + ix n ≤ sU τ := k.1.2.1
  obtain ⟨hn0, hn1⟩ := szOk_spec hn
  refine ⟨mono_tr mono_N k.1, ?_⟩
  intro p l e s m args below meth c H locs ls ad cy dC dI B0 n0 u0 K hz h1 h2 hS hW hl
  obtain ⟨hx, hb, hret, hml, hown, hlk, hmn, hts, hC⟩ := id K
  have ea := ad_new hW (by omega)
  refine va_newaK (N := ix n) (atype := .byte) hx hb (fin_word hts hw) rfl hd rfl hn0 rfl (Nat.le_trans (Nat.mul_le_mul_right _ hn1) (by decide)) (by show _ ≤ sN τ - n0; omega) (by show _ ≤ sU τ - u0; omega) rfl fun H1 cA e1 z1 o1 _ hcA => ?_
  have ecA : cA = cy 13 := ra_prim hC.1 (kd := 13) (t := .byte) rfl rfl hcA
  subst ecA
  have hW2 : Wd ad cy dC dI B0 (wN σ 13 (ix n)) H1 := by
    refine hW.push (cx_B hC hS) rfl (by omega) (fun b hb => cel_wN hb) ?_ z1 o1
    have hkk : sK (wN σ 13 (ix n)) (sN σ + 1) = (13, ix n) := if_pos rfl
    have hk : (sK (wN σ 13 (ix n)) (sN σ + 1)).1 = 13 := by rw [hkk]
    rw [cel_i hk (by decide) (by decide) (by decide), hkk]
    show H1[H.size]? = some (arrV _ _ (fun j => .int (sI (wN σ 13 (ix n)) (sN σ + 1) j)))
    rw [show (fun j => Value.int (sI (wN σ 13 (ix n)) (sN σ + 1) j)) = (fun _ => .int 0) from funext fun j => by show Value.int (if sN σ + 1 = sN σ + 1 then 0 else _) = _; rw [if_pos rfl]]
    exact e1
  have kk := k.2 p l e s m args below meth c H1 locs ls ad cy dC dI B0 n0 u0 K hz (by show _ ≤ sN σ + 1; omega) (by show _ ≤ sU σ + ix n; omega) (hS.grow (by omega) o1) hW2 hl
  rw [show sN (wN σ 13 (ix n)) - n0 = sN σ - n0 + 1 from by show sN σ + 1 - n0 = _; omega, show sU (wN σ 13 (ix n)) - u0 = sU σ - u0 + ix n from by show sU σ + ix n - u0 = _; omega] at kk
  have kk2 : W p l e (rmOf d (sN τ - n0) (sU τ - u0)) s m args below meth c H1 locs (sN σ - n0 + 1) (sU σ - u0 + ix n) (MQ below (Qe ad cy dC dI B0 r τ) args s (sN τ - n0) (sU τ - u0) (Aof B0)) (F0 m (pc + 2) ls (.ref (ad (sN σ + 1)) :: sk.map (sh ad))) := kk
  rw [ea] at kk2
  exact kk2
theorem ev_newa_int {n : Int32} (hw : Cond.arrayClass .int ∈ ALLG) (hn : szOk n = true) (hd : decode M.2.2.1 pc = .ok (.newarray .int, 2)) (k : Ev d M (pc + 2) lv (.ref (sN σ + 1) :: sk) (wN σ 14 (ix n)) r τ) : Ev d M pc lv (.int n :: sk) σ r τ := by
  have hm : sN σ + 1 ≤ sN τ := k.1.1
  have hu : sU σ + ix n ≤ sU τ := k.1.2.1
  obtain ⟨hn0, hn1⟩ := szOk_spec hn
  refine ⟨mono_tr mono_N k.1, ?_⟩
  intro p l e s m args below meth c H locs ls ad cy dC dI B0 n0 u0 K hz h1 h2 hS hW hl
  obtain ⟨hx, hb, hret, hml, hown, hlk, hmn, hts, hC⟩ := id K
  have ea := ad_new hW (by omega)
  refine va_newaK (N := ix n) (atype := .int) hx hb (fin_word hts hw) rfl hd rfl hn0 rfl (Nat.le_trans (Nat.mul_le_mul_right _ hn1) (by decide)) (by show _ ≤ sN τ - n0; omega) (by show _ ≤ sU τ - u0; omega) rfl fun H1 cA e1 z1 o1 _ hcA => ?_
  have ecA : cA = cy 14 := ra_prim hC.1 (kd := 14) (t := .int) rfl rfl hcA
  subst ecA
  have hW2 : Wd ad cy dC dI B0 (wN σ 14 (ix n)) H1 := by
    refine hW.push (cx_B hC hS) rfl (by omega) (fun b hb => cel_wN hb) ?_ z1 o1
    have hkk : sK (wN σ 14 (ix n)) (sN σ + 1) = (14, ix n) := if_pos rfl
    have hk : (sK (wN σ 14 (ix n)) (sN σ + 1)).1 = 14 := by rw [hkk]
    rw [cel_i hk (by decide) (by decide) (by decide), hkk]
    show H1[H.size]? = some (arrV _ _ (fun j => .int (sI (wN σ 14 (ix n)) (sN σ + 1) j)))
    rw [show (fun j => Value.int (sI (wN σ 14 (ix n)) (sN σ + 1) j)) = (fun _ => .int 0) from funext fun j => by show Value.int (if sN σ + 1 = sN σ + 1 then 0 else _) = _; rw [if_pos rfl]]
    exact e1
  have kk := k.2 p l e s m args below meth c H1 locs ls ad cy dC dI B0 n0 u0 K hz (by show _ ≤ sN σ + 1; omega) (by show _ ≤ sU σ + ix n; omega) (hS.grow (by omega) o1) hW2 hl
  rw [show sN (wN σ 14 (ix n)) - n0 = sN σ - n0 + 1 from by show sN σ + 1 - n0 = _; omega, show sU (wN σ 14 (ix n)) - u0 = sU σ - u0 + ix n from by show sU σ + ix n - u0 = _; omega] at kk
  have kk2 : W p l e (rmOf d (sN τ - n0) (sU τ - u0)) s m args below meth c H1 locs (sN σ - n0 + 1) (sU σ - u0 + ix n) (MQ below (Qe ad cy dC dI B0 r τ) args s (sN τ - n0) (sU τ - u0) (Aof B0)) (F0 m (pc + 2) ls (.ref (ad (sN σ + 1)) :: sk.map (sh ad))) := kk
  rw [ea] at kk2
  exact kk2
theorem ev_newa_long {n : Int32} (hw : Cond.arrayClass .long ∈ ALLG) (hn : szOk n = true) (hd : decode M.2.2.1 pc = .ok (.newarray .long, 2)) (k : Ev d M (pc + 2) lv (.ref (sN σ + 1) :: sk) (wN σ 15 (ix n)) r τ) : Ev d M pc lv (.int n :: sk) σ r τ := by
  have hm : sN σ + 1 ≤ sN τ := k.1.1
  have hu : sU σ + ix n ≤ sU τ := k.1.2.1
  obtain ⟨hn0, hn1⟩ := szOk_spec hn
  refine ⟨mono_tr mono_N k.1, ?_⟩
  intro p l e s m args below meth c H locs ls ad cy dC dI B0 n0 u0 K hz h1 h2 hS hW hl
  obtain ⟨hx, hb, hret, hml, hown, hlk, hmn, hts, hC⟩ := id K
  have ea := ad_new hW (by omega)
  refine va_newaK (N := ix n) (atype := .long) hx hb (fin_word hts hw) rfl hd rfl hn0 rfl (Nat.le_trans (Nat.mul_le_mul_right _ hn1) (by decide)) (by show _ ≤ sN τ - n0; omega) (by show _ ≤ sU τ - u0; omega) rfl fun H1 cA e1 z1 o1 _ hcA => ?_
  have ecA : cA = cy 15 := ra_prim hC.1 (kd := 15) (t := .long) rfl rfl hcA
  subst ecA
  have hW2 : Wd ad cy dC dI B0 (wN σ 15 (ix n)) H1 := by
    refine hW.push (cx_B hC hS) rfl (by omega) (fun b hb => cel_wN hb) ?_ z1 o1
    have hkk : sK (wN σ 15 (ix n)) (sN σ + 1) = (15, ix n) := if_pos rfl
    have hk : (sK (wN σ 15 (ix n)) (sN σ + 1)).1 = 15 := by rw [hkk]
    rw [cel_l hk, hkk]
    show H1[H.size]? = some (arrV _ _ (fun j => .long (sL (wN σ 15 (ix n)) (sN σ + 1) j)))
    rw [show (fun j => Value.long (sL (wN σ 15 (ix n)) (sN σ + 1) j)) = (fun _ => .long 0) from funext fun j => by show Value.long (if sN σ + 1 = sN σ + 1 then 0 else _) = _; rw [if_pos rfl]]
    exact e1
  have kk := k.2 p l e s m args below meth c H1 locs ls ad cy dC dI B0 n0 u0 K hz (by show _ ≤ sN σ + 1; omega) (by show _ ≤ sU σ + ix n; omega) (hS.grow (by omega) o1) hW2 hl
  rw [show sN (wN σ 15 (ix n)) - n0 = sN σ - n0 + 1 from by show sN σ + 1 - n0 = _; omega, show sU (wN σ 15 (ix n)) - u0 = sU σ - u0 + ix n from by show sU σ + ix n - u0 = _; omega] at kk
  have kk2 : W p l e (rmOf d (sN τ - n0) (sU τ - u0)) s m args below meth c H1 locs (sN σ - n0 + 1) (sU σ - u0 + ix n) (MQ below (Qe ad cy dC dI B0 r τ) args s (sN τ - n0) (sU τ - u0) (Aof B0)) (F0 m (pc + 2) ls (.ref (ad (sN σ + 1)) :: sk.map (sh ad))) := kk
  rw [ea] at kk2
  exact kk2
theorem ev_newa_boolean {n : Int32} (hw : Cond.arrayClass .boolean ∈ ALLG) (hn : szOk n = true) (hd : decode M.2.2.1 pc = .ok (.newarray .boolean, 2)) (k : Ev d M (pc + 2) lv (.ref (sN σ + 1) :: sk) (wN σ 16 (ix n)) r τ) : Ev d M pc lv (.int n :: sk) σ r τ := by
  have hm : sN σ + 1 ≤ sN τ := k.1.1
  have hu : sU σ + ix n ≤ sU τ := k.1.2.1
  obtain ⟨hn0, hn1⟩ := szOk_spec hn
  refine ⟨mono_tr mono_N k.1, ?_⟩
  intro p l e s m args below meth c H locs ls ad cy dC dI B0 n0 u0 K hz h1 h2 hS hW hl
  obtain ⟨hx, hb, hret, hml, hown, hlk, hmn, hts, hC⟩ := id K
  have ea := ad_new hW (by omega)
  refine va_newaK (N := ix n) (atype := .boolean) hx hb (fin_word hts hw) rfl hd rfl hn0 rfl (Nat.le_trans (Nat.mul_le_mul_right _ hn1) (by decide)) (by show _ ≤ sN τ - n0; omega) (by show _ ≤ sU τ - u0; omega) rfl fun H1 cA e1 z1 o1 _ hcA => ?_
  have ecA : cA = cy 16 := ra_prim hC.1 (kd := 16) (t := .boolean) rfl rfl hcA
  subst ecA
  have hW2 : Wd ad cy dC dI B0 (wN σ 16 (ix n)) H1 := by
    refine hW.push (cx_B hC hS) rfl (by omega) (fun b hb => cel_wN hb) ?_ z1 o1
    have hkk : sK (wN σ 16 (ix n)) (sN σ + 1) = (16, ix n) := if_pos rfl
    have hk : (sK (wN σ 16 (ix n)) (sN σ + 1)).1 = 16 := by rw [hkk]
    rw [cel_i hk (by decide) (by decide) (by decide), hkk]
    show H1[H.size]? = some (arrV _ _ (fun j => .int (sI (wN σ 16 (ix n)) (sN σ + 1) j)))
    rw [show (fun j => Value.int (sI (wN σ 16 (ix n)) (sN σ + 1) j)) = (fun _ => .int 0) from funext fun j => by show Value.int (if sN σ + 1 = sN σ + 1 then 0 else _) = _; rw [if_pos rfl]]
    exact e1
  have kk := k.2 p l e s m args below meth c H1 locs ls ad cy dC dI B0 n0 u0 K hz (by show _ ≤ sN σ + 1; omega) (by show _ ≤ sU σ + ix n; omega) (hS.grow (by omega) o1) hW2 hl
  rw [show sN (wN σ 16 (ix n)) - n0 = sN σ - n0 + 1 from by show sN σ + 1 - n0 = _; omega, show sU (wN σ 16 (ix n)) - u0 = sU σ - u0 + ix n from by show sU σ + ix n - u0 = _; omega] at kk
  have kk2 : W p l e (rmOf d (sN τ - n0) (sU τ - u0)) s m args below meth c H1 locs (sN σ - n0 + 1) (sU σ - u0 + ix n) (MQ below (Qe ad cy dC dI B0 r τ) args s (sN τ - n0) (sU τ - u0) (Aof B0)) (F0 m (pc + 2) ls (.ref (ad (sN σ + 1)) :: sk.map (sh ad))) := kk
  rw [ea] at kk2
  exact kk2
theorem ra_obj {cy dC : Nat → ClassId} {dI : Nat → Nat → Nat} {s : State} (hK : va_K (dC, dI) vwCl (tysOf cy) s) {kd : Nat} {C : String} (hk : (tysOf cy)[kd - 13]? = some (cy kd, .object C)) {cA : ClassId} (h : s.vm.findClass ("[" ++ (FieldType.object C).toString) = some cA) : cA = cy kd := by
  obtain ⟨_, _, _, _, _, h3⟩ := (hK.2 _ _ hk).2
  exact Option.some.inj (h.symm.trans h3)
theorem ev_anew {kd : Nat} {C : String} {n : Int32} {idx : Nat} (h17 : 17 ≤ kd) (h21 : kd ≤ 20) (hkt : kTy kd = .object C) (hw : Cond.classLink M.1 idx C ∈ ALLG) (hao : ∀ (ad : Nat → Nat) (cy dC : Nat → ClassId) (dI : Nat → Nat → Nat) (B0 : Nat) (U : State), Cx ad cy dC dI B0 U → va_AO C U) (hn : szOk n = true)
    (hd : decode M.2.2.1 pc = .ok (.anewarray idx, 3)) (k : Ev d M (pc + 3) lv (.ref (sN σ + 1) :: sk) (wN σ kd (ix n)) r τ) : Ev d M pc lv (.int n :: sk) σ r τ := by
  have hm : sN σ + 1 ≤ sN τ := k.1.1
  have hu : sU σ + ix n ≤ sU τ := k.1.2.1
  obtain ⟨hn0, hn1⟩ := szOk_spec hn
  refine ⟨mono_tr mono_N k.1, ?_⟩
  intro p l e s m args below meth c H locs ls ad cy dC dI B0 n0 u0 K hz h1 h2 hS hW hl
  obtain ⟨hx, hb, hret, hml, hown, hlk, hmn, hts, hC⟩ := id K
  have ea := ad_new hW (by omega)
  refine W.anew hx hb hown (fin_word hts hw) (va_AO.use (hao _ _ _ _ _ _ hC)) rfl hd rfl hn0 (by show ix n * 4 ≤ _; omega) (by show _ ≤ sN τ - n0; omega) (by show _ + ix n ≤ sU τ - u0; omega) fun cA kA comp f1 f2 f3 f4 => ?_
  have hty := tys_at (cy := cy) (k := kd) (by omega) (by omega)
  rw [hkt] at hty
  have ecA : cA = cy kd := ra_obj hC.1 hty f1
  subst ecA
  generalize hH1 : H.push ({ cls := cy kd, slots := Array.replicate n.toNatClampNeg .null, vm := .none } : Cell) = H1
  have z1 : H1.size = H.size + 1 := by rw [← hH1, Array.size_push]
  have e1 : H1[H.size]? = some (arrV (cy kd) n.toNatClampNeg (fun _ => .null)) := by rw [← hH1, Array.getElem?_push_size, ← arrV_new]
  have o1 : ∀ q : Nat, q < H.size → H1[q]? = H[q]? := fun q hq => by rw [← hH1, Array.getElem?_push, if_neg (Nat.ne_of_lt hq)]
  have hW2 : Wd ad cy dC dI B0 (wN σ kd (ix n)) H1 := by
    refine hW.push (cx_B hC hS) rfl (by omega) (fun b hb => cel_wN hb) ?_ z1 o1
    have hkk : sK (wN σ kd (ix n)) (sN σ + 1) = (kd, ix n) := if_pos rfl
    have hk : (sK (wN σ kd (ix n)) (sN σ + 1)).1 = kd := by rw [hkk]
    rw [cel_q hk h17, hkk]
    show H1[H.size]? = some (arrV _ _ (fun j => va_rf (rO ad (sR (wN σ kd (ix n)) (sN σ + 1) j))))
    rw [show (fun j => va_rf (rO ad (sR (wN σ kd (ix n)) (sN σ + 1) j))) = (fun _ => Value.null) from funext fun j => by show va_rf (rO ad (if sN σ + 1 = sN σ + 1 then 0 else _)) = _; rw [if_pos rfl]; rfl]
    exact e1
  have kk := k.2 p l e s m args below meth c H1 locs ls ad cy dC dI B0 n0 u0 K hz (by show _ ≤ sN σ + 1; omega) (by show _ ≤ sU σ + ix n; omega) (hS.grow (by omega) o1) hW2 hl
  rw [show sN (wN σ kd (ix n)) - n0 = sN σ - n0 + 1 from by show sN σ + 1 - n0 = _; omega, show sU (wN σ kd (ix n)) - u0 = sU σ - u0 + ix n from by show sU σ + ix n - u0 = _; omega] at kk
  have kk2 : W p l e (rmOf d (sN τ - n0) (sU τ - u0)) s m args below meth c H1 locs (sN σ - n0 + 1) (sU σ - u0 + ix n) (MQ below (Qe ad cy dC dI B0 r τ) args s (sN τ - n0) (sU τ - u0) (Aof B0)) (F0 m (pc + 3) ls (.ref (ad (sN σ + 1)) :: sk.map (sh ad))) := kk
  rw [ea] at kk2
  exact kk2
theorem ev_qast {a b kd ci : Nat} {C : String} {T : u_T} {N : Nat} {i : Int32} (cf : Cls ci C T N) (h17 : 17 ≤ kd) (h21 : kd ≤ 20) (hkt : kTy kd = .object C) (hob : ob σ a kd = true) (hi : inb σ a i = true) (hob2 : ob σ b ci = true)
    (hd : decode M.2.2.1 pc = .ok (.aastore, 1)) (k : Ev d M (pc + 1) lv sk (wR σ a (ix i) b) r τ) : Ev d M pc lv (.ref b :: .int i :: .ref a :: sk) σ r τ := by
  refine ⟨k.1, ?_⟩
  intro p l e s m args below meth c H locs ls ad cy dC dI B0 n0 u0 K hz h1 h2 hS hW hl
  obtain ⟨hx, hb, hret, hml, hown, hlk, hmn, hts, hC⟩ := id K
  obtain ⟨hk, ha1, ha2⟩ := ob_spec hob
  obtain ⟨hk2, hb1, hb2⟩ := ob_spec hob2
  have hg := wld_get (ad := ad) (cy := cy) ha1 ha2
  rw [cel_q hk h17] at hg
  have hg2 := wld_get (ad := ad) (cy := cy) hb1 hb2
  rw [cel_ob hk2 cf.2.1] at hg2
  have hty := tys_at (cy := cy) (k := kd) (by omega) (by omega)
  rw [hkt] at hty
  have hin := inb_spec hi
  have hlt : i.toNatClampNeg < (sK σ a).2 := Nat.not_le.mp fun q => hin (Or.inr q)
  have h0 : ¬ i < 0 := fun q => hin (Or.inl q)
  obtain ⟨r', hr', cellV, g1, g2, g3, -⟩ := hW.1 _ _ hg2
  have hcls := (hC.1.1 ci _ cf.1).2
  obtain ⟨kA, comp, k1, k2, k3, -⟩ := (hC.1.2 _ _ hty).2
  have hcomp : comp = dC ci := Option.some.inj (k3.symm.trans hcls.1)
  subst hcomp
  obtain ⟨kC, hkC, -⟩ := hcls.2
  refine W.aast hx hb (hW.1 _ _ hg) (fun q h => by cases h) (fun h => by cases h) k1 k2 rfl hkC ⟨h0, by show _ < (arrV _ _ _).slots.size; rw [arrV_size]; exact hlt⟩ g1 (fun q h => by rw [g3] at h; cases h) (by rw [g2]; exact hkC) (by rw [g2]; exact va_assign hcls) rfl rfl hd fun H1 e1 z oq => ?_
  refine k.2 p l e s m args below meth c H1 _ ls ad cy dC dI B0 n0 u0 K hz h1 h2 (hS.put z oq (hW.in ha1 ha2)) (hW.put ha1 ha2 rfl (fun b hb => cel_wR hb) ?_ z oq) hl
  rw [cel_q (σ := wR σ a (ix i) b) hk h17]
  show H1[ad a]? = some (vp_cell _ _)
  rw [e1]
  rw [vp_cell_q, vp_cell_q, arrV_store]
  congr 2
  funext q
  show _ = va_rf (rO ad (if a = a ∧ q = ix i then _ else _))
  by_cases hq : q = ix i
  · rw [if_pos ⟨rfl, hq⟩]
    subst hq
    have hb0 : ¬ b = 0 := by omega
    simp [updV, ix, rO, hb0, va_rf]
  · rw [if_neg (fun h => hq h.2)]
    have hq' : ¬ q = i.toNatClampNeg := hq
    simp [updV, hq']
theorem ev_iret {x : Int32} (ht : M.2.2.2.2 = some .int) (hd : decode M.2.2.1 pc = .ok (.ireturn, 1)) : Ev d M pc lv [.int x] σ (some (.int x)) σ := by
  refine ⟨mono_rf, ?_⟩
  intro p l e s m args below meth c H locs ls ad cy dC dI B0 n0 u0 K hz h1 h2 hS hW hl
  obtain ⟨hx, hb, hret, hml, hown, hlk, hmn, hts, hC⟩ := id K
  exact W.iret hx hb (hret.trans ht) (fun t ht2 hWm => ⟨⟨rfl, by rw [ht2]; exact hW⟩, hS.F ht2⟩) hS.2.2 hd hlk
theorem ev_zret {x : Int32} {ty : FieldType} (ht : M.2.2.2.2 = some ty) (hn : narrow ty (.int x) = .int x) (hd : decode M.2.2.1 pc = .ok (.ireturn, 1)) : Ev d M pc lv [.int x] σ (some (.int x)) σ := by
  refine ⟨mono_rf, ?_⟩
  intro p l e s m args below meth c H locs ls ad cy dC dI B0 n0 u0 K hz h1 h2 hS hW hl
  obtain ⟨hx, hb, hret, hml, hown, hlk, hmn, hts, hC⟩ := id K
  exact W.zret hx hb (hret.trans ht) hn (fun t ht2 hWm => ⟨⟨rfl, by rw [ht2]; exact hW⟩, hS.F ht2⟩) hS.2.2 hd hlk
theorem ev_lret {x : Int64} (ht : M.2.2.2.2 = some .long) (hd : decode M.2.2.1 pc = .ok (.lreturn, 1)) : Ev d M pc lv [.long x] σ (some (.long x)) σ := by
  refine ⟨mono_rf, ?_⟩
  intro p l e s m args below meth c H locs ls ad cy dC dI B0 n0 u0 K hz h1 h2 hS hW hl
  obtain ⟨hx, hb, hret, hml, hown, hlk, hmn, hts, hC⟩ := id K
  exact W.lret hx hb (hret.trans ht) (fun t ht2 hWm => ⟨⟨rfl, by rw [ht2]; exact hW⟩, hS.F ht2⟩) hS.2.2 hd hlk
theorem ev_vret (ht : M.2.2.2.2 = none) (hd : decode M.2.2.1 pc = .ok (.return_, 1)) : Ev d M pc lv [] σ none σ := by
  refine ⟨mono_rf, ?_⟩
  intro p l e s m args below meth c H locs ls ad cy dC dI B0 n0 u0 K hz h1 h2 hS hW hl
  obtain ⟨hx, hb, hret, hml, hown, hlk, hmn, hts, hC⟩ := id K
  exact W.vret hx hb (hret.trans ht) (fun t ht2 hWm => ⟨⟨rfl, by rw [ht2]; exact hW⟩, hS.F ht2⟩) hS.2.2 hd hlk
theorem ev_aret {x : Nat} {rt : FieldType} (ht : M.2.2.2.2 = some rt) (hrt : (∃ n, rt = .object n) ∨ ∃ t, rt = .array t) (hd : decode M.2.2.1 pc = .ok (.areturn, 1)) : Ev d M pc lv [.ref x] σ (some (.ref x)) σ := by
  refine ⟨mono_rf, ?_⟩
  intro p l e s m args below meth c H locs ls ad cy dC dI B0 n0 u0 K hz h1 h2 hS hW hl
  obtain ⟨hx, hb, hret, hml, hown, hlk, hmn, hts, hC⟩ := id K
  exact W.aret hx hb (hret.trans ht) hrt (Or.inr ⟨_, rfl⟩) (fun t ht2 hWm => ⟨⟨rfl, by rw [ht2]; exact hW⟩, hS.F ht2⟩) hS.2.2 hd hlk
theorem ev_aretN {rt : FieldType} (ht : M.2.2.2.2 = some rt) (hrt : (∃ n, rt = .object n) ∨ ∃ t, rt = .array t) (hd : decode M.2.2.1 pc = .ok (.areturn, 1)) : Ev d M pc lv [.null] σ (some .null) σ := by
  refine ⟨mono_rf, ?_⟩
  intro p l e s m args below meth c H locs ls ad cy dC dI B0 n0 u0 K hz h1 h2 hS hW hl
  obtain ⟨hx, hb, hret, hml, hown, hlk, hmn, hts, hC⟩ := id K
  exact W.aret hx hb (hret.trans ht) hrt (Or.inl rfl) (fun t ht2 hWm => ⟨⟨rfl, by rw [ht2]; exact hW⟩, hS.F ht2⟩) hS.2.2 hd hlk
end
