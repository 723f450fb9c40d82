/-! THE ABSTRACT MEMORY, AND WHAT A WALK SAYS IN ITS WORDS. Cells are numbered 1, 2, .. as they are made; 0 is null. -/
def ALLG : List Cond := lw_tbl.filter goodWord
theorem tin {w : Cond} (i : Nat) (h : tables_1[i]? = some w) (hg : goodWord w = true) : w ∈ ALLG :=
  List.mem_filter.mpr ⟨List.mem_append_right _ (List.mem_of_getElem? h), hg⟩
theorem sin {q : MethodName × Nat} (i : Nat) (h : lw_privs[i]? = some q) (hg : goodWord (Cond.selects q.1.cls q.1 q.1) = true) : Cond.selects q.1.cls q.1 q.1 ∈ ALLG :=
  List.mem_filter.mpr ⟨List.mem_append_left _ (List.mem_map.mpr ⟨q, List.mem_of_getElem? h, rfl⟩), hg⟩
def c_nest : Cond → Bool
  | .fieldLinkNest .. => true
  | .methodLinkNest .. => true
  | _ => false
def NESTL : List Cond := tables_1.filter c_nest
theorem nin {w : Cond} (i : Nat) (h : tables_1[i]? = some w) (hg : c_nest w = true) : w ∈ NESTL := List.mem_filter.mpr ⟨List.mem_of_getElem? h, hg⟩
theorem nest_warm {s U : State} (hW : s.WarmedH U.vm) {w : Cond} (h : c_nest w = true) (hz : va_Nw w s) : va_Nw w U := by
  cases w <;> first | (cases h; done) | exact va_Nw.warmF hW hz | exact va_Nw.warmM hW hz
theorem nest_same {s U : State} (hW : s.vm = U.vm) {w : Cond} (h : c_nest w = true) (hz : va_Nw w s) : va_Nw w U := by
  cases w <;> first | (cases h; done) | exact va_Nw.same rfl hW hz
theorem nest_use {args : Array Value} {s : State} {w : Cond} (h : c_nest w = true) (hz : va_Nw w s) : w.before args s = true := by
  cases w <;> first | (cases h; done) | exact va_Nw.use rfl hz

def STR : Nat := 1099511627776
abbrev St : Type := (Nat → Nat × Nat) × (Nat → Nat → Int32) × (Nat → Nat → Int64) × (Nat → Nat → Nat) × Nat × Nat
/-- kind and length of a cell; its whole numbers, longs, references; how many cells; their slots -/
def sK (σ : St) : Nat → Nat × Nat := σ.1
def sI (σ : St) : Nat → Nat → Int32 := σ.2.1
def sL (σ : St) : Nat → Nat → Int64 := σ.2.2.1
def sR (σ : St) : Nat → Nat → Nat := σ.2.2.2.1
def sN (σ : St) : Nat := σ.2.2.2.2.1
def sU (σ : St) : Nat := σ.2.2.2.2.2
def wI (σ : St) (a k : Nat) (v : Int32) : St := (sK σ, fun b j => if b = a ∧ j = k then v else sI σ b j, sL σ, sR σ, sN σ, sU σ)
def wL (σ : St) (a k : Nat) (v : Int64) : St := (sK σ, sI σ, fun b j => if b = a ∧ j = k then v else sL σ b j, sR σ, sN σ, sU σ)
def wR (σ : St) (a k : Nat) (v : Nat) : St := (sK σ, sI σ, sL σ, fun b j => if b = a ∧ j = k then v else sR σ b j, sN σ, sU σ)
/-- a whole row of ints -/
def wC (σ : St) (a : Nat) (f : Nat → Int32) : St := (sK σ, fun b j => if b = a then f j else sI σ b j, sL σ, sR σ, sN σ, sU σ)
/-- a new cell of kind k, of n slots -/
def wN (σ : St) (k n : Nat) : St :=
  (fun b => if b = sN σ + 1 then (k, n) else sK σ b, fun b j => if b = sN σ + 1 then 0 else sI σ b j, fun b j => if b = sN σ + 1 then 0 else sL σ b j, fun b j => if b = sN σ + 1 then 0 else sR σ b j, sN σ + 1, sU σ + n)
def ob (σ : St) (a k : Nat) : Bool := (sK σ a).1 == k && (decide (1 ≤ a) && decide (a ≤ sN σ))
def ix (i : Int32) : Nat := i.toNatClampNeg
def inb (σ : St) (a : Nat) (i : Int32) : Bool := decide (0 ≤ i.toInt) && decide (i.toInt < ((sK σ a).2 : Int))
def gd {α : Type} (b : Bool) (x : Option α) : Option α := match b with | true => x | false => none
theorem gd_some {α : Type} {b : Bool} {x : Option α} {y : α} (h : gd b x = some y) : b = true ∧ x = some y := by
  cases b with
  | true => exact ⟨rfl, h⟩
  | false => cases h
theorem ob_spec {σ : St} {a k : Nat} (h : ob σ a k = true) : (sK σ a).1 = k ∧ 1 ≤ a ∧ a ≤ sN σ := by
  simp only [ob, Bool.and_eq_true, beq_iff_eq, decide_eq_true_eq] at h
  exact h
theorem inb_spec {σ : St} {a : Nat} {i : Int32} (h : inb σ a i = true) : vp_in i (sK σ a).2 := by
  simp only [inb, Bool.and_eq_true, decide_eq_true_eq] at h
  exact vp_in_iff.mpr h
def Mono (σ τ : St) : Prop := sN σ ≤ sN τ ∧ sU σ ≤ sU τ ∧ ∀ a, a ≤ sN σ → sK τ a = sK σ a
theorem mono_rf {σ : St} : Mono σ σ := ⟨Nat.le_refl _, Nat.le_refl _, fun _ _ => rfl⟩
theorem mono_tr {σ τ ρ : St} (h : Mono σ τ) (g : Mono τ ρ) : Mono σ ρ := ⟨Nat.le_trans h.1 g.1, Nat.le_trans h.2.1 g.2.1, fun a ha => (g.2.2 a (Nat.le_trans ha h.1)).trans (h.2.2 a ha)⟩
theorem mono_ob {σ τ : St} (h : Mono σ τ) {a k : Nat} (g : ob σ a k = true) : ob τ a k = true := by
  obtain ⟨g1, g2, g3⟩ := ob_spec g
  simp only [ob, Bool.and_eq_true, beq_iff_eq, decide_eq_true_eq]
  exact ⟨by rw [h.2.2 a g3]; exact g1, g2, Nat.le_trans g3 h.1⟩
theorem mono_N {σ : St} {k n : Nat} : Mono σ (wN σ k n) := ⟨Nat.le_succ _, Nat.le_add_right _ _, fun a ha => if_neg (by omega)⟩

/-- the fields of the classes by their numbers; the kinds of arrays -/
def tyF : Nat → Nat → FieldType
  | 0 => tyX0 | 1 => tyX1 | 2 => tyX2 | 3 => tyX3 | 4 => tyX4 | 5 => tyX5 | 6 => tyX6 | 7 => tyX7 | 8 => tyX8 | 9 => tyX9 | 10 => tyX10 | 11 => tyX11 | _ => tyX12
def nF : Nat → Nat
  | 0 => 7 | 1 => 4 | 2 => 6 | 3 => 10 | 4 => 8 | 5 => 10 | 6 => 16 | 7 => 13 | 8 => 6 | 9 => 3 | 10 => 7 | 11 => 9 | _ => 79
def isRf : FieldType → Bool
  | .object _ => true
  | .array _ => true
  | _ => false
def kTy : Nat → FieldType
  | 13 => .byte | 14 => .int | 15 => .long | 16 => .boolean | 17 => .object "MillBoats$Boat" | 18 => .object "MillBoats$Book" | 19 => .object "MillBoats$Table" | 20 => .object "MillBoats$Text" | _ => .array .int
def tysOf (cy : Nat → ClassId) : List (ClassId × FieldType) := [(cy 13, kTy 13), (cy 14, kTy 14), (cy 15, kTy 15), (cy 16, kTy 16), (cy 17, kTy 17), (cy 18, kTy 18), (cy 19, kTy 19), (cy 20, kTy 20), (cy 21, kTy 21)]
theorem tys_at {cy : Nat → ClassId} {k : Nat} (h1 : 13 ≤ k) (h2 : k ≤ 21) : (tysOf cy)[k - 13]? = some (cy k, kTy k) := by
  have : k = 13 ∨ k = 14 ∨ k = 15 ∨ k = 16 ∨ k = 17 ∨ k = 18 ∨ k = 19 ∨ k = 20 ∨ k = 21 := by omega
  rcases this with rfl | rfl | rfl | rfl | rfl | rfl | rfl | rfl | rfl <;> rfl
def rO (ad : Nat → Nat) (a : Nat) : Option Nat := if a = 0 then none else some (ad a)
def fV (ad : Nat → Nat) (t : FieldType) (i : Int32) (r : Nat) : Value := if isRf t = true then va_rf (rO ad r) else .int i
def flds (ad : Nat → Nat) (ci : Nat) (σ : St) (a : Nat) : List Value := (List.range (nF ci)).map (fun j => fV ad (tyF ci j) (sI σ a j) (sR σ a j))
def cel (ad : Nat → Nat) (cy : Nat → ClassId) (σ : St) (a : Nat) : va_E :=
  if (sK σ a).1 < 13 then .inr ((sK σ a).1, flds ad (sK σ a).1 σ a)
  else if (sK σ a).1 = 15 then .inl (cy (sK σ a).1, (sK σ a).2, .inr (.inl (sL σ a)))
  else if (sK σ a).1 ≤ 16 then .inl (cy (sK σ a).1, (sK σ a).2, .inl (sI σ a))
  else .inl (cy (sK σ a).1, (sK σ a).2, .inr (.inr (.inr (.inr (fun i => rO ad (sR σ a i))))))
def wld (ad : Nat → Nat) (cy : Nat → ClassId) (σ : St) : va_W := (List.range (sN σ)).map (fun k => (ad (k + 1), cel ad cy σ (k + 1)))
theorem wld_len {ad : Nat → Nat} {cy : Nat → ClassId} {σ : St} : (wld ad cy σ).length = sN σ := by simp [wld]
theorem wld_get {ad : Nat → Nat} {cy : Nat → ClassId} {σ : St} {a : Nat} (h1 : 1 ≤ a) (h2 : a ≤ sN σ) : (wld ad cy σ)[a - 1]? = some (ad a, cel ad cy σ a) := by
  unfold wld
  rw [List.getElem?_map, List.getElem?_range (by omega)]
  simp only [Option.map_some]
  rw [Nat.sub_add_cancel h1]
theorem wld_set {ad : Nat → Nat} {cy : Nat → ClassId} {σ τ : St} {a : Nat} {e : va_E} (h1 : 1 ≤ a) (hn : sN τ = sN σ) (he : e = cel ad cy τ a) (ho : ∀ b, b ≠ a → cel ad cy τ b = cel ad cy σ b) : (wld ad cy σ).set (a - 1) (ad a, e) = wld ad cy τ := by
  apply List.ext_getElem?
  intro i
  rw [List.getElem?_set]
  unfold wld
  by_cases hi : a - 1 = i
  · subst hi
    rw [hn, if_pos rfl]
    by_cases hl : a - 1 < sN σ
    · rw [if_pos (by simpa using hl), List.getElem?_map, List.getElem?_range hl]
      simp only [Option.map_some]
      rw [Nat.sub_add_cancel h1, he]
    · rw [if_neg (by simpa using hl), List.getElem?_eq_none (by simpa using Nat.not_lt.mp hl)]
  · rw [if_neg hi, hn, List.getElem?_map, List.getElem?_map]
    by_cases hl : i < sN σ
    · rw [List.getElem?_range hl]
      simp only [Option.map_some]
      rw [ho (i + 1) (by omega)]
    · rw [List.getElem?_eq_none (by simpa using Nat.not_lt.mp hl)]
      rfl
theorem wld_push {ad : Nat → Nat} {cy : Nat → ClassId} {σ τ : St} {e : va_E} (hn : sN τ = sN σ + 1) (he : e = cel ad cy τ (sN σ + 1)) (ho : ∀ b, b ≤ sN σ → cel ad cy τ b = cel ad cy σ b) : wld ad cy σ ++ [(ad (sN σ + 1), e)] = wld ad cy τ := by
  unfold wld
  rw [hn, List.range_succ, List.map_append, he]
  congr 1
  apply List.map_congr_left
  intro k hk
  rw [ho (k + 1) (by have := List.mem_range.mp hk; omega)]

/-- what a class's number stands for -/
def Cls (ci : Nat) (C : String) (T : u_T) (N : Nat) : Prop :=
  vwCl[ci]? = some (C, T, N) ∧ ci < 13 ∧ nF ci = N ∧ (∀ w ∈ u_ws C T N, w ∈ ALLG) ∧ (∀ k, k < N → parseFieldDescriptor (T k).2.2.1 = some (tyF ci k)) ∧ (∀ a, a < N → ∀ b, b < N → a ≠ b → (T a).2.1 ≠ (T b).2.1)
theorem flds_at {ad : Nat → Nat} {ci k : Nat} {σ : St} {a : Nat} (hk : k < nF ci) : (flds ad ci σ a)[k]? = some (fV ad (tyF ci k) (sI σ a k) (sR σ a k)) := by
  unfold flds
  rw [List.getElem?_map, List.getElem?_range hk]
  rfl
theorem cel_ob {ad : Nat → Nat} {cy : Nat → ClassId} {σ : St} {a ci : Nat} (h : (sK σ a).1 = ci) (hc : ci < 13) : cel ad cy σ a = .inr (ci, flds ad ci σ a) := by
  unfold cel
  rw [h, if_pos hc]
theorem cel_i {ad : Nat → Nat} {cy : Nat → ClassId} {σ : St} {a k : Nat} (h : (sK σ a).1 = k) (h1 : 13 ≤ k) (h2 : k ≤ 16) (h3 : k ≠ 15) : cel ad cy σ a = .inl (cy k, (sK σ a).2, .inl (sI σ a)) := by
  unfold cel
  rw [h, if_neg (by omega), if_neg h3, if_pos h2]
theorem cel_l {ad : Nat → Nat} {cy : Nat → ClassId} {σ : St} {a : Nat} (h : (sK σ a).1 = 15) : cel ad cy σ a = .inl (cy 15, (sK σ a).2, .inr (.inl (sL σ a))) := by
  unfold cel
  rw [h, if_neg (by omega), if_pos rfl]
theorem cel_q {ad : Nat → Nat} {cy : Nat → ClassId} {σ : St} {a k : Nat} (h : (sK σ a).1 = k) (h1 : 17 ≤ k) : cel ad cy σ a = .inl (cy k, (sK σ a).2, .inr (.inr (.inr (.inr (fun i => rO ad (sR σ a i)))))) := by
  unfold cel
  rw [h, if_neg (by omega), if_neg (by omega), if_neg (by omega)]
theorem cel_eq {ad : Nat → Nat} {cy : Nat → ClassId} {σ τ : St} {b : Nat} (h1 : sK τ b = sK σ b) (h2 : sI τ b = sI σ b) (h3 : sL τ b = sL σ b) (h4 : sR τ b = sR σ b) : cel ad cy τ b = cel ad cy σ b := by
  unfold cel flds
  rw [h1, h2, h3, h4]
theorem cel_wI {ad : Nat → Nat} {cy : Nat → ClassId} {σ : St} {a k b : Nat} {v : Int32} (h : b ≠ a) : cel ad cy (wI σ a k v) b = cel ad cy σ b := cel_eq rfl (funext fun _ => if_neg (fun q => h q.1)) rfl rfl
theorem cel_wC {ad : Nat → Nat} {cy : Nat → ClassId} {σ : St} {a b : Nat} {f : Nat → Int32} (h : b ≠ a) : cel ad cy (wC σ a f) b = cel ad cy σ b := cel_eq rfl (funext fun _ => if_neg h) rfl rfl
theorem cel_wL {ad : Nat → Nat} {cy : Nat → ClassId} {σ : St} {a k b : Nat} {v : Int64} (h : b ≠ a) : cel ad cy (wL σ a k v) b = cel ad cy σ b := cel_eq rfl rfl (funext fun _ => if_neg (fun q => h q.1)) rfl
theorem cel_wR {ad : Nat → Nat} {cy : Nat → ClassId} {σ : St} {a k b : Nat} {v : Nat} (h : b ≠ a) : cel ad cy (wR σ a k v) b = cel ad cy σ b := cel_eq rfl rfl rfl (funext fun _ => if_neg (fun q => h q.1))
theorem cel_wN {ad : Nat → Nat} {cy : Nat → ClassId} {σ : St} {k n b : Nat} (h : b ≤ sN σ) : cel ad cy (wN σ k n) b = cel ad cy σ b := by
  have hb : ¬ b = sN σ + 1 := by omega
  exact cel_eq (if_neg hb) (funext fun _ => if_neg hb) (funext fun _ => if_neg hb) (funext fun _ => if_neg hb)
