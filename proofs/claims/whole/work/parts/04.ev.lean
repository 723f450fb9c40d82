def va_AOI (U : State) : Prop := (Cond.arrayOver (.array .int)).before #[] U = true
theorem va_AOI.moved {u U : State} (hvm : u.vm.Alike U.vm) (h : va_AOI u) : va_AOI U := by
  obtain ⟨comp, c, k, h1, h2, h3, h4, h5⟩ := arrayOverA_spec h
  obtain ⟨k', hk', he⟩ := hvm.2.2 _ _ h3
  have hb : U.vm.bare = u.vm.bare := by first | exact hvm.bare_eq | exact hvm.bare_eq.symm
  have hi : (U.vm.classes.findIdx? fun (x : Class) => match x.kind with | .array component _ => component == comp | _ => false) = some c :=
    (va_idx_bare U.vm comp).symm.trans ((congrArg (fun v : Vm => v.classes.findIdx? fun (x : Class) => match x.kind with | .array component _ => component == comp | _ => false) hb).trans ((va_idx_bare u.vm comp).trans h2))
  have hkind : k'.kind = .array comp (.array .int) := by rw [he]; exact h4
  have f1 : U.vm.findClass (FieldType.array .int).toString = some comp := by rw [hvm.findClass]; exact h1
  have f2 : U.vm.findClass ("[" ++ (FieldType.array .int).toString) = some c := by rw [hvm.findClass]; exact h5
  unfold va_AOI Cond.before Cond.holds
  simp only [Cond.value]
  rw [f1, Option.bind_some]
  refine (congrArg (fun o : Option Nat => (o.bind (fun c => (U.vm.classes[c]?).map fun (k : Class) => match k.kind with | .array _ ty => decide (ty = FieldType.array .int) && decide (U.vm.findClass ("[" ++ (FieldType.array .int).toString) = some c) | _ => false) == some true)) hi).trans ?_
  simp [hk', hkind, f2]
/-! the texts that the code names -/
def strL : List (String × Nat × String × Nat) := [("MillBoats$Reader", 41, "let forbid allow toll of way if or and not ", 0), ("MillBoats$Reader", 47, "lane stretch height depth day mill draught wheel sacks ", 1), ("MillBoats", 244, "no such mill or nothing of that kind", 2), ("MillBoatsModel", 296, "let", 3), ("MillBoatsModel", 298, "forbid", 4), ("MillBoatsModel", 300, "allow", 5), ("MillBoatsModel", 302, "toll", 6), ("MillBoatsModel", 306, "way", 7), ("MillBoatsModel", 304, "of", 8), ("MillBoatsModel", 308, "if", 9), ("MillBoatsModel", 310, "or", 10), ("MillBoatsModel", 312, "and", 11), ("MillBoatsModel", 314, "not", 12), ("MillBoatsModel", 316, "lane", 13), ("MillBoatsModel", 318, "stretch", 14), ("MillBoatsModel", 320, "height", 15), ("MillBoatsModel", 322, "depth", 16), ("MillBoatsModel", 323, "day", 17), ("MillBoatsModel", 325, "mill", 18), ("MillBoatsModel", 327, "draught", 19), ("MillBoatsModel", 328, "wheel", 20), ("MillBoatsModel", 329, "sacks", 21)]
def lenS : List Nat := [43, 55, 36, 3, 6, 5, 4, 3, 2, 2, 2, 3, 3, 4, 7, 6, 5, 3, 4, 7, 5, 5]
def bytS : List (List Int32) := [[108, 101, 116, 32, 102, 111, 114, 98, 105, 100, 32, 97, 108, 108, 111, 119, 32, 116, 111, 108, 108, 32, 111, 102, 32, 119, 97, 121, 32, 105, 102, 32, 111, 114, 32, 97, 110, 100, 32, 110, 111, 116, 32], [108, 97, 110, 101, 32, 115, 116, 114, 101, 116, 99, 104, 32, 104, 101, 105, 103, 104, 116, 32, 100, 101, 112, 116, 104, 32, 100, 97, 121, 32, 109, 105, 108, 108, 32, 100, 114, 97, 117, 103, 104, 116, 32, 119, 104, 101, 101, 108, 32, 115, 97, 99, 107, 115, 32], [110, 111, 32, 115, 117, 99, 104, 32, 109, 105, 108, 108, 32, 111, 114, 32, 110, 111, 116, 104, 105, 110, 103, 32, 111, 102, 32, 116, 104, 97, 116, 32, 107, 105, 110, 100], [108, 101, 116], [102, 111, 114, 98, 105, 100], [97, 108, 108, 111, 119], [116, 111, 108, 108], [119, 97, 121], [111, 102], [105, 102], [111, 114], [97, 110, 100], [110, 111, 116], [108, 97, 110, 101], [115, 116, 114, 101, 116, 99, 104], [104, 101, 105, 103, 104, 116], [100, 101, 112, 116, 104], [100, 97, 121], [109, 105, 108, 108], [100, 114, 97, 117, 103, 104, 116], [119, 104, 101, 101, 108], [115, 97, 99, 107, 115]]
/-! WHAT A WALK SAYS: Cx is what stays true of the machine; Wd the heap in the words of St; Ev: from here the method comes to its end with this answer and memory; Call: so a whole call does. -/
def Aof (B0 : Nat) : Nat → Prop := fun q => B0 ≤ q
def Ex (ad : Nat → Nat) (B0 : Nat) (U : State) : Prop :=
  B0 ≤ U.heap.size ∧ vk_S 22 lenS bytS (fun i => ad (STR + i)) (fun i => ad (STR + 32 + i)) (Aof B0) U U.heap ∧ va_Z "java/lang/String" "COMPACT_STRINGS" "Z" (.int 1) (Aof B0) U U.heap ∧ (va_Z "jdk/internal/util/Preconditions" "SIOOBE_FORMATTER" "Ljava/util/function/BiFunction;" .null (Aof B0) U U.heap ∨ va_Z "jdk/internal/util/Preconditions" "SIOOBE_FORMATTER" "Ljava/util/function/BiFunction;" (.ref (ad (STR + 64))) (Aof B0) U U.heap) ∧
  (∀ q ∈ strL, vk_R q.1 q.2.1 q.2.2.1 (ad (STR + q.2.2.2)) U) ∧ va_AO "MillBoats$Table" U ∧ va_AO "MillBoats$Boat" U ∧ va_AO "MillBoats$Book" U ∧ va_AO "MillBoats$Text" U ∧ va_AOI U
def Cx (ad : Nat → Nat) (cy : Nat → ClassId) (dC : Nat → ClassId) (dI : Nat → Nat → Nat) (B0 : Nat) (U : State) : Prop :=
  va_K (dC, dI) vwCl (tysOf cy) U ∧ (∀ w ∈ NESTL, va_Nw w U) ∧ Ex ad B0 U
theorem Cx.go {ad : Nat → Nat} {cy dC : Nat → ClassId} {dI : Nat → Nat → Nat} {B0 : Nat} {s U : State} {H : Heap} {locs : List Loc} (h : Cx ad cy dC dI B0 s) (hW : s.WarmedH U.vm) (hS : va_S (Aof B0) s.heap H locs) (hH : U.heap = H) : Cx ad cy dC dI B0 U := by
  obtain ⟨hK, hN, h1, h2, h3, h4, h5, h6, h7, h8, h9, h10⟩ := h
  subst hH
  have hq : ∀ a : Nat, a < s.heap.size → ¬ Aof B0 a → U.heap[a]? = s.heap[a]? := hS.2.1
  exact ⟨va_K.moved hW.alike hK, fun w hw => nest_warm hW (List.mem_filter.mp hw).2 (hN w hw), Nat.le_trans h1 hS.1, (h2.moved hW.alike).kept hq, (h3.moved hW.alike).kept hq, h4.imp (fun h => (h.moved hW.alike).kept hq) (fun h => (h.moved hW.alike).kept hq), fun q hq => vk_R.warm hW (h5 q hq), h6.moved hW.alike, h7.moved hW.alike, h8.moved hW.alike, h9.moved hW.alike, h10.moved hW.alike⟩
theorem Cx.calling {ad : Nat → Nat} {cy dC : Nat → ClassId} {dI : Nat → Nat → Nat} {B0 : Nat} {U : State} {g : JFrame} {mk : MethodId} {a : Array Value} (h : Cx ad cy dC dI B0 U) : Cx ad cy dC dI B0 (U.calling g mk a) := by
  obtain ⟨hK, hN, h1, h2, h3, h4, h5, h6, h7, h8, h9, h10⟩ := h
  have al : U.vm.Alike (U.calling g mk a).vm := Vm.Alike.refl U.vm
  exact ⟨va_K.moved al hK, fun w hw => nest_same (s := U) (U := U.calling g mk a) rfl (List.mem_filter.mp hw).2 (hN w hw), h1, h2.moved al, h3.moved al, h4.imp (fun h => h.moved al) (fun h => h.moved al), fun q hq => vk_R.same rfl (h5 q hq), h6.moved al, h7.moved al, h8.moved al, h9.moved al, h10.moved al⟩
def Wd (ad : Nat → Nat) (cy : Nat → ClassId) (dC : Nat → ClassId) (dI : Nat → Nat → Nat) (B0 : Nat) (σ : St) (H : Heap) : Prop :=
  va_P (dC, dI) vwCl (wld ad cy σ) H ∧ va_D (Aof B0) (wld ad cy σ) ∧ ∀ j, sN σ + 1 + j < STR → ad (sN σ + 1 + j) = H.size + j
def sh (ad : Nat → Nat) : Value → Value
  | .ref a => .ref (ad a)
  | .null => .null
  | .int x => .int x
  | .long x => .long x
  | v => v
theorem sh_cat (ad : Nat → Nat) (v : Value) : (sh ad v).category = v.category := by cases v <;> rfl
def shl (ad : Nat → Nat) (lv : List (Nat × Value)) : List (Nat × Value) := lv.map (fun q => (q.1, sh ad q.2))
/-- own class, name, code, locals, what it returns -/
abbrev MD : Type := String × MethodName × ByteArray × Nat × Option FieldType
def WS (M : MD) : List Cond := Cond.code M.2.1 M.2.2.1 M.2.2.2.1 M.2.2.2.2 :: ALLG
def rmOf (d k n : Nat) : Room := { frames := d, cells := k, slots := n, locals := 40 * d }
def Qe (ad : Nat → Nat) (cy : Nat → ClassId) (dC : Nat → ClassId) (dI : Nat → Nat → Nat) (B0 : Nat) (r : Option Value) (τ : St) : Array Value → State → Outcome → State → Prop :=
  fun _ st o t => (o = .returned (r.map (sh ad)) ∧ Wd ad cy dC dI B0 τ t.heap) ∧ va_F (Aof B0) st t
def Call (d : Nat) (M : MD) (vs : List Value) (σ : St) (r : Option Value) (τ : St) : Prop :=
  Mono σ τ ∧ ∀ (l : Launch) (ad : Nat → Nat) (cy dC : Nat → ClassId) (dI : Nat → Nat → Nat) (B0 : Nat), sN τ < STR →
    Met l M.2.1 (WS M) (rmOf d (sN τ - sN σ) (sU τ - sU σ)) (va_Pc (vs.map (sh ad)) (fun U => Cx ad cy dC dI B0 U ∧ Wd ad cy dC dI B0 σ U.heap)) (Qe ad cy dC dI B0 r τ) (sN τ - sN σ) (sU τ - sU σ) (Aof B0)
def Kx (M : MD) (ad : Nat → Nat) (cy dC : Nat → ClassId) (dI : Nat → Nat → Nat) (B0 : Nat) (p : Program) (s : State) (m : MethodId) (args : Array Value) (meth : Method) (c : Code) : Prop :=
  p.tables.exec = Jvm.exec ∧ c.code = M.2.2.1 ∧ meth.sig.returnType = M.2.2.2.2 ∧ c.maxLocals = M.2.2.2.1 ∧ s.vm.findClass M.1 = some m.cls ∧ meth.locks = false ∧ meth.name = M.2.1.name ∧ (∀ w ∈ WS M, w.before args s = true) ∧ Cx ad cy dC dI B0 s
def Ev (d : Nat) (M : MD) (pc : Nat) (lv : List (Nat × Value)) (sk : List Value) (σ : St) (r : Option Value) (τ : St) : Prop :=
  Mono σ τ ∧ ∀ (p : Program) (l : Launch) (e : Env) (s : State) (m : MethodId) (args : Array Value) (below : List Frame) (meth : Method) (c : Code) (H : Heap) (locs : List Loc) (ls : Array Slot) (ad : Nat → Nat) (cy dC : Nat → ClassId) (dI : Nat → Nat → Nat) (B0 n0 u0 : Nat),
    Kx M ad cy dC dI B0 p s m args meth c → sN τ < STR → n0 ≤ sN σ → u0 ≤ sU σ → va_S (Aof B0) s.heap H locs → Wd ad cy dC dI B0 σ H → lv_has ls M.2.2.2.1 (shl ad lv) →
    W p l e (rmOf d (sN τ - n0) (sU τ - u0)) s m args below meth c H locs (sN σ - n0) (sU σ - u0) (MQ below (Qe ad cy dC dI B0 r τ) args s (sN τ - n0) (sU τ - u0) (Aof B0)) (F0 m pc ls (sk.map (sh ad)))
/-- a row that leaves the memory as it is -/
theorem Ev.pure {d : Nat} {M : MD} {pc pc2 : Nat} {lv lv2 : List (Nat × Value)} {sk sk2 : List Value} {σ τ : St} {r : Option Value} (k : Ev d M pc2 lv2 sk2 σ r τ)
    (h : ∀ (p : Program) (l : Launch) (e : Env) (R : Room) (s : State) (m : MethodId) (args : Array Value) (below : List Frame) (meth : Method) (c : Code) (H : Heap) (locs : List Loc) (cells slots : Nat) (Q : State → Prop) (ls : Array Slot) (ad : Nat → Nat),
      p.tables.exec = Jvm.exec → c.code = M.2.2.1 → s.vm.findClass M.1 = some m.cls → (∀ w ∈ WS M, w.before args s = true) → lv_has ls M.2.2.2.1 (shl ad lv) →
      (∀ ls2, lv_has ls2 M.2.2.2.1 (shl ad lv2) → W p l e R s m args below meth c H locs cells slots Q (F0 m pc2 ls2 (sk2.map (sh ad)))) → W p l e R s m args below meth c H locs cells slots Q (F0 m pc ls (sk.map (sh ad)))) : Ev d M pc lv sk σ r τ := by
  refine ⟨k.1, ?_⟩
  intro p l e s m args below meth c H locs ls ad cy dC dI B0 n0 u0 K hz h1 h2 hS hW hl
  exact h p l e _ s m args below meth c H locs _ _ _ ls ad K.1 K.2.1 K.2.2.2.2.1 K.2.2.2.2.2.2.2.1 hl (fun ls2 hl2 => k.2 p l e s m args below meth c H locs ls2 ad cy dC dI B0 n0 u0 K hz h1 h2 hS hW hl2)
theorem shl_at {ad : Nat → Nat} {lv : List (Nat × Value)} {k i : Nat} {v : Value} (h : lv[k]? = some (i, v)) : (shl ad lv)[k]? = some (i, sh ad v) := by
  unfold shl
  rw [List.getElem?_map, h]
  rfl
def lset (i : Nat) (v : Value) (lv : List (Nat × Value)) : List (Nat × Value) := (i, v) :: lv.filter (fun q => !(q.1 == i) && !(q.1 + 1 == i && q.2.category == 2))
theorem shl_lset {ad : Nat → Nat} {i : Nat} {v : Value} {lv : List (Nat × Value)} : shl ad (lset i v lv) = lset i (sh ad v) (shl ad lv) := by
  unfold shl lset
  rw [List.map_cons, List.filter_map]
  congr 2
  apply List.filter_congr
  intro q _
  show _ = (!(q.1 == i) && !(q.1 + 1 == i && (sh ad q.2).category == 2))
  rw [sh_cat]
def lset2 (i : Nat) (v : Value) (lv : List (Nat × Value)) : List (Nat × Value) := (i, v) :: lv.filter (fun q => !(q.1 == i) && (!(q.1 == i + 1) && !(q.1 + 1 == i && q.2.category == 2)))
theorem shl_lset2 {ad : Nat → Nat} {i : Nat} {v : Value} {lv : List (Nat × Value)} : shl ad (lset2 i v lv) = lset2 i (sh ad v) (shl ad lv) := by
  unfold shl lset2
  rw [List.map_cons, List.filter_map]
  congr 2
  apply List.filter_congr
  intro q _
  show _ = (!(q.1 == i) && (!(q.1 == i + 1) && !(q.1 + 1 == i && (sh ad q.2).category == 2)))
  rw [sh_cat]
/-- fewer locals, in another order -/
theorem Ev.sub {d : Nat} {M : MD} {pc : Nat} {lv lv2 : List (Nat × Value)} {sk : List Value} {σ τ : St} {r : Option Value} (ks : List Nat) (hl : lv_pick lv ks = lv2) (k : Ev d M pc lv2 sk σ r τ) : Ev d M pc lv sk σ r τ :=
  k.pure (fun p l e R s m args below meth c H locs cells slots Q ls ad hx hb ho hw hv kk => kk ls (lv_sub hv ks (by
    subst hl
    unfold shl lv_pick
    simp only [List.map_filterMap, List.getElem?_map])))
